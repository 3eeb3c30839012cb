/** The boundary cases of promises 27 to 34 and of the sentences on goals, blocks alone and solving. */
public final class SolveBoundsTest {
    private static final Check check = new Check();
    private static final int NO_SUCH_BLOCK = BlockYard.NO_SUCH_BLOCK;
    private static final int NO_SUCH_CELL = BlockYard.NO_SUCH_CELL;
    private static final int BAD_VALUE = BlockYard.BAD_VALUE;
    private static final int GIVEN_UP = BlockYard.GIVEN_UP;
    private static final int NONE = BlockYard.NONE;
    /** A corridor of four bends; from its beginning to its end there are 34 pushes. */
    private static final String BENDS =
            "A......./#######./......../.#######/......../#######./......../########";
    /** More than 1200 arrangements, none of which is solved if A's goal is the gate at (5, 0). */
    private static final String MANY = "A....w##/########/B......./........";

    public static void main(String[] args) {
        solvedWithoutGoals();
        solvedByAllBlocks();
        solvedInOneOrientation();
        deadWithoutGoal();
        deadOrNot();
        deadForOneOrientation();
        noBlockToBeDead();
        noCellToBeDeadIn();
        noOrientationToBeDeadIn();
        noPlacement();
        placementsOfEveryKindOfCell();
        allPlacementsAreDead();
        noPlacementIsDead();
        countsOfNoBlock();
        aloneWithoutOtherBlocks();
        aloneWithOpenGates();
        aloneWithAnyStrength();
        distancesOfNone();
        theLongestWay();
        turnsInOneSense();
        distancesOfTheDead();
        distancesOfNoBlock();
        boundsOfNone();
        theGreatestDistance();
        boundsOfTheDead();
        solvedAtOnce();
        noSolutionForTheDead();
        noSolutionAtAll();
        theOrderOfTheList();
        the1200thArrangement();
        the1201stArrangement();
        theListIsFull();
        deadArrangementsAreNotListed();
        aSolutionBeforeTheLimit();
        movesOfTheSolution();
        movesOfNoSolution();
        movesOfAGivenUpSearch();
        theSolutionForThePresent();
        solvingChangesNothing();
        reachableWithNoMoves();
        numbersOfMoves();
        deadPlacementsDoNotMatter();
        theSameArrangementCountsOnce();
        reachable1200();
        wrongNumbersComeFirst();
        check.end();
    }

    // ---- promise 27

    private static void solvedWithoutGoals() {
        check.about("The puzzle is solved if all blocks that have a goal are there (also if no block has a goal).");
        check.due("a new object", 1, new BlockYard().isSolved());
        BlockYard yard = Check.yard("A../.../..B");
        check.due("a new level", 1, yard.isSolved());
        yard.setGoal(0, 1, 0, 4);
        check.due("with a goal", 0, yard.isSolved());
        yard.clearGoal(0);
        check.due("with a cleared goal", 1, yard.isSolved());
    }

    private static void solvedByAllBlocks() {
        check.about("all blocks that have a goal are there");
        BlockYard yard = Check.yard("ABCDE/...../.....");
        for (int block = 0; block < 5; block++) {
            yard.setGoal(block, block, 1, 4);
        }
        String letters = "abcde";
        for (int block = 0; block < 5; block++) {
            check.due("before " + block, 0, yard.isSolved());
            Check.play(yard, letters.charAt(block) + "d");
        }
        check.due("all of them", 1, yard.isSolved());
        for (int block = 0; block < 5; block++) {
            yard.setGoal(block, block, 2, 4);
            check.due("all but " + block, 0, yard.isSolved());
            yard.clearGoal(block);
            check.due("all that have a goal", 1, yard.isSolved());
        }
    }

    private static void solvedInOneOrientation() {
        check.about("a cell for its pivot, and an orientation or any orientation");
        BlockYard yard = Check.yard(".../.Aa/...");
        for (int turned = 0; turned < 4; turned++) {
            for (int orientation = 0; orientation <= 4; orientation++) {
                yard.setGoal(0, 1, 1, orientation);
                boolean isThere = orientation == 4 || orientation == turned;
                check.due("goal " + orientation + " turned " + turned, isThere ? 1 : 0, yard.isSolved());
            }
            yard.move(0, 4);
        }
        yard.setGoal(0, 2, 1, 4);
        check.due("a cell that is not the pivot", 0, yard.isSolved());
        yard.setGoal(0, 1, 0, 4);
        check.due("another row", 0, yard.isSolved());
    }

    // ---- promises 28 and 29

    private static void deadWithoutGoal() {
        check.about("A placement is dead if the block has a goal");
        BlockYard yard = Check.yard("A#./###/...");
        check.inside("without a goal", 0, 3, 0, orientation -> yard.isDead(0, 2, 2, orientation));
        check.due("deadCount", 0, yard.deadCount(0));
        yard.setGoal(0, 0, 0, 4);
        check.inside("with a goal", 0, 3, 1, orientation -> yard.isDead(0, 2, 2, orientation));
        check.due("deadCount", 16, yard.deadCount(0));
        yard.clearGoal(0);
        check.due("with a cleared goal", 0, yard.isDead(0, 2, 2, 0));
        check.due("deadCount", 0, yard.deadCount(0));
    }

    private static void deadOrNot() {
        check.about("and cannot come from it to its goal by any moves alone");
        BlockYard yard = Check.yard("A.>./####/....");
        yard.setGoal(0, 1, 0, 4);
        int[] row = {0, 0, 0, 1};
        for (int x = 0; x < 4; x++) {
            check.due("isDead at " + x, row[x], yard.isDead(0, x, 0, 0));
            check.due("isDead behind the wall", 1, yard.isDead(0, x, 2, 0));
            check.due("isDead in the wall", NONE, yard.isDead(0, x, 1, 0));
        }
        check.due("deadCount", 20, yard.deadCount(0));
        BlockYard back = Check.yard("..<A/####/....");
        back.setGoal(0, 3, 0, 4);
        int[] mirrored = {1, 1, 0, 0};
        for (int x = 0; x < 4; x++) {
            check.due("isDead at " + x, mirrored[x], back.isDead(0, x, 0, 0));
        }
        check.due("deadCount", 24, back.deadCount(0));
    }

    private static void deadForOneOrientation() {
        check.about("its goal: a cell for its pivot, and an orientation or any orientation");
        BlockYard yard = Check.yard("Aa./###/...");
        yard.setGoal(0, 1, 0, 0);
        check.due("turned as the goal", 0, yard.isDead(0, 0, 0, 0));
        check.due("turned otherwise", 1, yard.isDead(0, 1, 0, 2));
        check.due("deadCount", 6, yard.deadCount(0));
        yard.setGoal(0, 1, 0, 4);
        check.due("any orientation", 0, yard.isDead(0, 1, 0, 2));
        check.due("deadCount", 4, yard.deadCount(0));
    }

    private static void noBlockToBeDead() {
        check.about("isDead: NO_SUCH_BLOCK; NO_SUCH_CELL; BAD_VALUE; NONE");
        BlockYard yard = Check.yard("A#./.../..C");
        for (int[] rest : new int[][] {{0, 0, 0}, {3, 0, 0}, {0, -1, 4}, {0, 0, -1}, {1, 0, 0}, {1, 0, 4}}) {
            check.outside("isDead of a number", 0, 4, NO_SUCH_BLOCK,
                    block -> yard.isDead(block, rest[0], rest[1], rest[2]));
            check.due("isDead of 1", NO_SUCH_BLOCK, yard.isDead(1, rest[0], rest[1], rest[2]));
            check.due("isDead of 4", NO_SUCH_BLOCK, yard.isDead(4, rest[0], rest[1], rest[2]));
        }
    }

    private static void noCellToBeDeadIn() {
        check.about("isDead: NO_SUCH_CELL; BAD_VALUE; NONE");
        BlockYard yard = Check.yard("A.../..../....");
        for (int orientation : new int[] {0, 3, 4, -1}) {
            check.outside("isDead(0, x, 0, ..)", 0, 3, NO_SUCH_CELL, x -> yard.isDead(0, x, 0, orientation));
            check.outside("isDead(0, x, 1, ..)", 0, 3, NO_SUCH_CELL, x -> yard.isDead(0, x, 1, orientation));
            check.outside("isDead(0, 0, y, ..)", 0, 2, NO_SUCH_CELL, y -> yard.isDead(0, 0, y, orientation));
            check.outside("isDead(0, 3, y, ..)", 0, 2, NO_SUCH_CELL, y -> yard.isDead(0, 3, y, orientation));
        }
    }

    private static void noOrientationToBeDeadIn() {
        check.about("isDead: orientation: 0 to 3: BAD_VALUE; NONE");
        BlockYard yard = Check.yard("A#./.../...");
        check.inside("orientation", 0, 3, 0, orientation -> yard.isDead(0, 0, 0, orientation));
        check.outside("orientation", 0, 3, BAD_VALUE, orientation -> yard.isDead(0, 0, 0, orientation));
        check.outside("orientation in a wall", 0, 3, BAD_VALUE, orientation -> yard.isDead(0, 1, 0, orientation));
    }

    private static void noPlacement() {
        check.about("NONE if it is no placement of the block.");
        BlockYard yard = Check.yard("Aa./..#/...");
        for (int goal = 0; goal < 2; goal++) {
            check.due("out of the yard to the right", NONE, yard.isDead(0, 2, 0, 0));
            check.due("out of the yard below", NONE, yard.isDead(0, 0, 2, 1));
            check.due("out of the yard to the left", NONE, yard.isDead(0, 0, 0, 2));
            check.due("out of the yard above", NONE, yard.isDead(0, 0, 0, 3));
            check.due("the pivot on the wall", NONE, yard.isDead(0, 2, 1, 2));
            check.due("the other cell on the wall", NONE, yard.isDead(0, 1, 1, 0));
            check.due("just a placement", 0, yard.isDead(0, 1, 0, 0));
            yard.setGoal(0, 1, 0, 4);
        }
        // in a yard of 8 columns the next row begins behind the edge
        BlockYard wide = Check.yard("Aa....../......../........");
        check.due("out of the yard to the right", NONE, wide.isDead(0, 7, 0, 0));
        check.due("out of the yard to the left", NONE, wide.isDead(0, 0, 1, 2));
    }

    private static void placementsOfEveryKindOfCell() {
        check.about("all its cells are in the yard and are no walls (also placements that it cannot reach)");
        BlockYard yard = Check.yard("A#B./##../><v^/0123/wxyz");
        for (int k = 8; k < 20; k++) {
            check.due("isDead in the cell " + k, 0, yard.isDead(0, k % 4, k / 4, 3));
        }
        check.due("where the other block is", 0, yard.isDead(0, 2, 0, 0));
        yard.setGoal(0, 0, 0, 0);
        check.due("where the other block is", 1, yard.isDead(0, 2, 0, 0));
        check.due("on a closed gate", 1, yard.isDead(0, 0, 4, 0));
        check.due("all that it cannot reach", 4 * 16, yard.deadCount(0));
    }

    private static void allPlacementsAreDead() {
        check.about("Returns how many of its placements are dead: all of them");
        BlockYard yard = Check.yard("A../.#./...");
        yard.setGoal(0, 1, 1, 4);
        check.due("a goal in a wall", 32, yard.deadCount(0));
        BlockYard large = Check.yard(Check.with(Check.with(Check.floor(8, 8), 0, 0, 'A'), 0, 1, '#'));
        large.setGoal(0, 0, 1, 0);
        check.due("63 cells", 252, large.deadCount(0));
        BlockYard edge = Check.yard("Aa./.../...");
        edge.setGoal(0, 2, 0, 0);
        check.due("a goal where it does not fit", 24, edge.deadCount(0));
    }

    private static void noPlacementIsDead() {
        check.about("Returns how many of its placements are dead: none");
        BlockYard large = Check.yard(Check.with(Check.floor(8, 8), 0, 0, 'A'));
        large.setGoal(0, 7, 7, 3);
        check.due("deadCount", 0, large.deadCount(0));
        check.due("the first placement", 0, large.isDead(0, 0, 0, 0));
        check.due("the last placement", 0, large.isDead(0, 7, 7, 3));
    }

    private static void countsOfNoBlock() {
        check.about("deadCount: NO_SUCH_BLOCK.");
        BlockYard yard = Check.yard(".../.C./...");
        check.outside("deadCount", 0, 4, NO_SUCH_BLOCK, yard::deadCount);
        check.inside("deadCount", 0, 1, NO_SUCH_BLOCK, yard::deadCount);
        check.inside("deadCount", 3, 4, NO_SUCH_BLOCK, yard::deadCount);
        check.due("deadCount(2)", 0, yard.deadCount(2));
    }

    // ---- promises 30 and 31

    private static void aloneWithoutOtherBlocks() {
        check.about("a block is regarded alone: without other blocks");
        BlockYard yard = Check.yard("AB#/##./...");
        yard.setGoal(0, 1, 0, 4);
        check.due("distance", 1, yard.distance(0));
        check.due("deadCount", 16, yard.deadCount(0));
        check.due("moved", BlockYard.NOT_POSSIBLE, yard.moved(0, 0));
        check.due("solve", NONE, yard.solve());
    }

    private static void aloneWithOpenGates() {
        check.about("alone: with all gates open");
        for (char gate : "wxyz".toCharArray()) {
            BlockYard yard = Check.yard("A" + gate + "./###/...");
            yard.setGoal(0, 2, 0, 4);
            check.due("distance", 2, yard.distance(0));
            check.due("deadCount", 12, yard.deadCount(0));
            check.due("solve", NONE, yard.solve());
            BlockYard turn = Check.yard("Aa./." + gate + "./...");
            turn.setGoal(0, 0, 0, 1);
            check.due("a turn past a gate", 1, turn.distance(0));
        }
    }

    private static void aloneWithAnyStrength() {
        check.about("alone: with any strength");
        BlockYard yard = Check.yard("A../###/...");
        yard.setGoal(0, 2, 0, 4);
        yard.setWeight(0, 9);
        yard.setStrength(1);
        check.due("distance", 2, yard.distance(0));
        check.due("deadCount", 12, yard.deadCount(0));
        check.due("solve", NONE, yard.solve());
    }

    private static void distancesOfNone() {
        check.about("The distance of a block is .. 0 if it has no goal.");
        BlockYard yard = Check.yard("A#./###/...");
        check.due("without a goal", 0, yard.distance(0));
        yard.setGoal(0, 0, 0, 0);
        check.due("at its goal", 0, yard.distance(0));
        yard.setGoal(0, 0, 0, 2);
        check.due("two turns from its goal", 2, yard.distance(0));
        yard.clearGoal(0);
        check.due("without a goal again", 0, yard.distance(0));
    }

    private static void theLongestWay() {
        check.about("the least number of moves by which it comes from its present placement to its goal alone");
        BlockYard yard = Check.yard(BENDS);
        int[] turns = {0, 1, 2, 1, 0};
        for (int orientation = 0; orientation <= 4; orientation++) {
            yard.setGoal(0, 0, 6, orientation);
            check.due("distance for " + orientation, 34 + turns[orientation], yard.distance(0));
            check.due("lowerBound for " + orientation, 34 + turns[orientation], yard.lowerBound());
        }
        check.due("solve", 34, yard.solve());
        check.due("solution(33)", 2, yard.solution(33));
        check.due("solution(34)", NONE, yard.solution(34));
    }

    private static void turnsInOneSense() {
        check.about("the least number of moves by which it comes .. to its goal alone");
        BlockYard clockwise = Check.yard(".../.Aa/..#");
        clockwise.setGoal(0, 1, 1, 1);
        check.due("a turn clockwise is barred", 3, clockwise.distance(0));
        clockwise.setGoal(0, 1, 1, 3);
        check.due("one counterclockwise is free", 1, clockwise.distance(0));
        BlockYard counter = Check.yard("..#/.Aa/...");
        counter.setGoal(0, 1, 1, 3);
        check.due("a turn counterclockwise is barred", 3, counter.distance(0));
        counter.setGoal(0, 1, 1, 1);
        check.due("one clockwise is free", 1, counter.distance(0));
    }

    private static void distancesOfTheDead() {
        check.about("distance: NONE if its present placement is dead.");
        BlockYard yard = Check.yard("A>./###/...");
        yard.setGoal(0, 0, 0, 4);
        yard.move(0, 0);
        check.due("not yet dead", 1, yard.distance(0));
        yard.move(0, 0);
        check.due("dead", NONE, yard.distance(0));
        yard.undo();
        check.due("not dead any more", 1, yard.distance(0));
    }

    private static void distancesOfNoBlock() {
        check.about("distance: NO_SUCH_BLOCK; NONE");
        BlockYard yard = Check.yard(".../.C./...");
        check.outside("distance", 0, 4, NO_SUCH_BLOCK, yard::distance);
        check.inside("distance", 0, 1, NO_SUCH_BLOCK, yard::distance);
        check.inside("distance", 3, 4, NO_SUCH_BLOCK, yard::distance);
        check.due("distance(2)", 0, yard.distance(2));
    }

    private static void boundsOfNone() {
        check.about("lowerBound: 0 if there are no blocks");
        check.due("a new object", 0, new BlockYard().lowerBound());
        check.due("a level without blocks", 0, Check.yard("###/.../...").lowerBound());
        check.due("blocks without goals", 0, Check.yard("AB./.../...").lowerBound());
    }

    private static void theGreatestDistance() {
        check.about("Returns the greatest distance of a block");
        for (int far = 0; far < 5; far++) {
            BlockYard yard = Check.yard("ABCDE/...../...../.....");
            for (int block = 0; block < 5; block++) {
                yard.setGoal(block, block, block == far ? 3 : 1, 4);
            }
            check.due("with block " + far, 3, yard.lowerBound());
            yard.clearGoal(far);
            check.due("without it", 1, yard.lowerBound());
        }
    }

    private static void boundsOfTheDead() {
        check.about("lowerBound: NONE if some block is in a dead placement.");
        for (int dead = 0; dead < 5; dead++) {
            BlockYard yard = Check.yard("ABCDE/#####/.....");
            for (int block = 0; block < 5; block++) {
                yard.setGoal(block, (block + 2) % 5, block == dead ? 2 : 0, 4);
            }
            check.due("with the dead block " + dead, NONE, yard.lowerBound());
            yard.clearGoal(dead);
            check.due("without its goal", 3, yard.lowerBound());
        }
    }

    // ---- promises 32 and 33

    private static void solvedAtOnce() {
        check.about("If that is solved, the solution has no moves.");
        check.due("a new object", 0, new BlockYard().solve());
        check.due("its solution", NONE, new BlockYard().solution(0));
        BlockYard yard = Check.yard("A../.../...");
        yard.setGoal(0, 0, 0, 0);
        check.due("solve", 0, yard.solve());
        check.due("solution(0)", NONE, yard.solution(0));
        check.due("solution(-1)", BAD_VALUE, yard.solution(-1));
        check.due("without goals, in a yard of many arrangements", 0, Check.yard(MANY).solve());
    }

    private static void noSolutionForTheDead() {
        check.about("If some block is in a dead placement, there is no solution.");
        BlockYard yard = Check.yard("A......./......../########/B.......");
        yard.setGoal(0, 0, 0, 4);
        check.due("without the dead one", 0, yard.solve());
        yard.setGoal(1, 0, 0, 4);
        check.due("solve", NONE, yard.solve());
        check.due("solution(0)", NONE, yard.solution(0));
        yard.setGoal(0, 7, 1, 4);
        check.due("not given up", NONE, yard.solve());
    }

    private static void noSolutionAtAll() {
        check.about("NONE if there is none.");
        BlockYard stuck = Check.yard("AB#/##./...");
        stuck.setGoal(0, 1, 0, 4);
        check.due("the other block is in the way", NONE, stuck.solve());
        BlockYard one = Check.yard("A#./##./...");
        one.setGoal(0, 0, 0, 2);
        check.due("turns alone", 2, one.solve());
        BlockYard both = Check.yard("A.B/###/...");
        both.setGoal(0, 1, 0, 4);
        both.setGoal(1, 1, 0, 4);
        check.due("one goal for two", NONE, both.solve());
    }

    private static void isSolution(String name, BlockYard yard, int... moves) {
        check.due("solve of " + name, moves.length, yard.solve());
        for (int k = 0; k < moves.length; k++) {
            check.due("solution(" + k + ") of " + name, moves[k], yard.solution(k));
        }
        check.due("solution behind the end of " + name, NONE, yard.solution(moves.length));
    }

    private static void theOrderOfTheList() {
        check.about("the blocks in ascending order, for each one the kinds from 0 to 5");
        BlockYard yard = Check.yard("A../.../...");
        yard.setGoal(0, 2, 2, 4);
        isSolution("right before down", yard, 0, 0, 1, 1);
        yard.setGoal(0, 1, 0, 1);
        isSolution("a push before a turn", yard, 0, 4);
        yard.setGoal(0, 0, 0, 2);
        isSolution("clockwise before counterclockwise", yard, 4, 4);
        BlockYard two = Check.yard("A.../..../...B");
        two.setGoal(0, 0, 1, 4);
        two.setGoal(1, 3, 1, 4);
        isSolution("lower blocks before higher ones", two, 1, 13);
        BlockYard turned = Check.yard("..../.AB./....");
        turned.setGoal(1, 3, 1, 4);
        isSolution("a lower block that pushes before the block itself", turned, 0);
        BlockYard back = Check.yard("..../.BA./..../....");
        back.setGoal(1, 0, 0, 4);
        isSolution("and in two moves", back, 2, 13);
    }

    private static void the1200thArrangement() {
        check.about("If the list would get more than 1200 arrangements: 1200 are not more");
        BlockYard less = Check.yard("Bb..z/...../<.#.A/..##a");
        less.setGoal(0, 4, 0, 4);
        check.due("1199 arrangements", NONE, less.solve());
        BlockYard just = Check.yard("...../Bb.A./.###./z...#");
        just.setGoal(0, 0, 3, 4);
        check.due("1200 arrangements", NONE, just.solve());
        check.due("solution", NONE, just.solution(0));
        // the 1200th one has A at (6, 1) turned once and B at (6, 0) turned thrice
        BlockYard last = Check.yard("A....#B./......../########");
        last.setGoal(0, 6, 1, 1);
        last.setGoal(1, 6, 0, 3);
        check.due("the 1200th arrangement is solved", 9, last.solve());
        check.due("its last move", 15, last.solution(8));
    }

    private static void the1201stArrangement() {
        check.about("If the list would get more than 1200 arrangements, the search is given up.");
        BlockYard over = Check.yard(".#...#/....A./#.z.a./.Bb#.>/v.....");
        over.setGoal(0, 2, 2, 4);
        check.due("1201 arrangements", GIVEN_UP, over.solve());
        check.due("solution", GIVEN_UP, over.solution(0));
        // the 1201st one has A at (6, 1) turned thrice and B at (7, 0)
        BlockYard next = Check.yard("A....#B./......../########");
        next.setGoal(0, 6, 1, 3);
        next.setGoal(1, 7, 0, 0);
        check.due("the 1201st arrangement is solved", GIVEN_UP, next.solve());
    }

    private static void theListIsFull() {
        check.about("solve: GIVEN_UP");
        BlockYard many = Check.yard(MANY);
        many.setGoal(0, 5, 0, 4);
        check.due("solve", GIVEN_UP, many.solve());
        check.due("solve again", GIVEN_UP, many.solve());
        check.due("lowerBound", 5, many.lowerBound());
        many.setGoal(0, 4, 0, 4);
        check.due("with another goal", 4, many.solve());
    }

    private static void deadArrangementsAreNotListed() {
        check.about("If a move leads to an arrangement in which no block is in a dead placement .. this arrangement is a"
                + "ppended");
        // A can be in 6 cells, and in a seventh one that is dead: 6 * 4 * 12 * 4 are 1152, 7 * 4 * 12 * 4 are 1344
        BlockYard yard = Check.yard("A....w##/v#######/.#######/########/B......./....####");
        yard.setGoal(0, 5, 0, 4);
        check.due("the seventh cell is dead", 1, yard.isDead(0, 0, 2, 0));
        check.due("the sixth is not", 0, yard.isDead(0, 0, 1, 0));
        check.due("solve", NONE, yard.solve());
        BlockYard alive = Check.yard("A....w##/.#######/.#######/########/B......./....####");
        alive.setGoal(0, 5, 0, 4);
        check.due("the seventh cell is not dead", 0, alive.isDead(0, 0, 2, 0));
        check.due("solve then", GIVEN_UP, alive.solve());
    }

    private static void aSolutionBeforeTheLimit() {
        check.about("if it is solved, the search ends");
        BlockYard yard = Check.yard("A......./..B...../....C.../......D./E.......");
        yard.setGoal(0, 1, 0, 4);
        check.due("one move", 1, yard.solve());
        yard.setGoal(4, 1, 4, 4);
        check.due("two moves", 2, yard.solve());
        yard.setGoal(2, 5, 2, 4);
        check.due("three moves", 3, yard.solve());
        yard.setGoal(3, 0, 0, 4);
        check.due("many moves", GIVEN_UP, yard.solve());
    }

    private static void movesOfTheSolution() {
        check.about("solution: BAD_VALUE if k is negative; .. NONE if .. it has not so many moves.");
        BlockYard yard = Check.yard("A../.../...");
        yard.setGoal(0, 2, 1, 4);
        int[] moves = {0, 0, 1};
        for (int k = 0; k < 3; k++) {
            check.due("solution(" + k + ")", moves[k], yard.solution(k));
        }
        for (int k : Check.outside(0, 2)) {
            check.due("solution(" + k + ")", k < 0 ? BAD_VALUE : NONE, yard.solution(k));
        }
        check.due("solve behind it", 3, yard.solve());
    }

    private static void movesOfNoSolution() {
        check.about("solution: BAD_VALUE if k is negative; GIVEN_UP; NONE if there is no solution");
        BlockYard yard = Check.yard("A#./###/...");
        yard.setGoal(0, 2, 0, 4);
        check.inside("solution", 0, 3, NONE, yard::solution);
        for (int k : Check.outside(0, 3)) {
            check.due("solution(" + k + ")", k < 0 ? BAD_VALUE : NONE, yard.solution(k));
        }
    }

    private static void movesOfAGivenUpSearch() {
        check.about("solution: BAD_VALUE if k is negative; GIVEN_UP");
        BlockYard yard = Check.yard(MANY);
        yard.setGoal(0, 5, 0, 4);
        check.inside("solution", 0, 9, GIVEN_UP, yard::solution);
        for (int k : Check.outside(0, 2000)) {
            check.due("solution(" + k + ")", k < 0 ? BAD_VALUE : GIVEN_UP, yard.solution(k));
        }
    }

    private static void theSolutionForThePresent() {
        check.about("Returns a move of the solution for the present arrangement.");
        BlockYard yard = Check.yard("A.../..../....");
        yard.setGoal(0, 2, 0, 4);
        isSolution("the first arrangement", yard, 0, 0);
        yard.move(0, 0);
        isSolution("a move", yard, 0);
        yard.move(0, 0);
        isSolution("another move", yard);
        yard.undo();
        isSolution("undo", yard, 0);
        yard.redo();
        isSolution("redo", yard);
        yard.save(0);
        Check.play(yard, "ar");
        isSolution("readMoves", yard, 2);
        yard.restore(0);
        isSolution("restore", yard);
        yard.setGoal(0, 2, 1, 4);
        isSolution("setGoal", yard, 1);
        yard.clearGoal(0);
        isSolution("clearGoal", yard);
        yard.setGoal(0, 2, 1, 4);
        isSolution("setGoal", yard, 1);
        yard.setWeight(0, 9);
        isSolution("setWeight", yard, 1);
        yard.setStrength(8);
        check.due("setStrength", NONE, yard.solution(0));
        yard.setWeight(0, 8);
        isSolution("another weight", yard, 1);
        BlockYard gate = Check.yard("A0w/.../...");
        gate.setGoal(0, 2, 0, 4);
        isSolution("a gate", gate, 0, 0);
        gate.setThreshold(0, 2);
        check.due("setThreshold", NONE, gate.solution(0));
        Check.read(gate, "A0./.../...");
        isSolution("readLevel", gate);
        BlockYard corner = Check.yard(".A./.../...");
        corner.setGoal(0, 2, 0, 4);
        isSolution("one step away", corner, 0);
        corner.move(0, 2);
        isSolution("a move into the first cell", corner, 0, 0);
    }

    private static void solvingChangesNothing() {
        check.about("Searches for the solution.");
        BlockYard yard = Check.yard("A.../..../...B");
        yard.setGoal(0, 3, 0, 4);
        Check.play(yard, "arar");
        yard.undo();
        yard.solve();
        yard.solution(0);
        yard.reachable(4);
        check.due("picture", ".A../..../...B", Check.picture(yard));
        check.due("effort", 1, yard.effort());
        check.due("redo", 2, yard.redo());
    }

    // ---- promise 34

    private static void reachableWithNoMoves() {
        check.about("the present one included");
        check.due("a new object", 1, new BlockYard().reachable(0));
        check.due("a new object, four moves", 1, new BlockYard().reachable(4));
        check.due("no moves", 1, Check.yard("A../.../...").reachable(0));
        check.due("a stuck block", 1, Check.yard("Aa#/###/...").reachable(4));
        check.due("many blocks", 1, Check.yard("ABCDE/...../.....").reachable(0));
    }

    private static void numbersOfMoves() {
        check.about("moves: 0 to 4");
        BlockYard yard = Check.yard("A......./########/........");
        // in each cell there are 1, 3 or 4 orientations if 0, 1 or more moves are left for turns
        int[] want = {1, 4, 8, 12, 16};
        for (int moves = 0; moves <= 4; moves++) {
            check.due("reachable(" + moves + ")", want[moves], yard.reachable(moves));
        }
        check.outside("reachable", 0, 4, BAD_VALUE, yard::reachable);
    }

    private static void deadPlacementsDoNotMatter() {
        check.about("(Dead placements do not matter.)");
        BlockYard yard = Check.yard("A>../####/....");
        check.due("without a goal", 12, yard.reachable(3));
        yard.setGoal(0, 0, 0, 4);
        check.due("two cells are dead", 12, yard.reachable(3));
        yard.setGoal(0, 0, 2, 4);
        check.due("all are dead", 12, yard.reachable(3));
        yard.setGoal(0, 1, 0, 4);
        yard.move(0, 0);
        check.due("solved", 1, yard.isSolved());
        check.due("a solved one does not end it", 11, yard.reachable(2));
    }

    private static void theSameArrangementCountsOnce() {
        check.about("Counts the arrangements that can be reached with at most some number of moves");
        BlockYard yard = Check.yard("A#./##./...");
        int[] want = {1, 3, 4, 4, 4};
        for (int moves = 0; moves <= 4; moves++) {
            check.due("four orientations, reachable(" + moves + ")", want[moves], yard.reachable(moves));
        }
        Check.play(yard, "atat");
        check.due("behind moves", 3, yard.reachable(1));
    }

    private static void reachable1200() {
        check.about("GIVEN_UP if it is greater than 1200.");
        check.due("1199", 1199, Check.yard("...#/..../BA.C").reachable(4));
        check.due("1200", 1200, Check.yard("...../...../..B.#/..C../...A./....#").reachable(3));
        check.due("1201", GIVEN_UP, Check.yard("C...../...#../..A.../BD....").reachable(3));
        check.due("1201", GIVEN_UP, Check.yard("..C/A../.B#/##.").reachable(4));
        BlockYard yard = Check.yard("A......./..B...../....C.../......D./E.......");
        check.due("far more", GIVEN_UP, yard.reachable(4));
        check.due("fewer moves behind it", 27, yard.reachable(1));
    }

    private static void wrongNumbersComeFirst() {
        check.about("reachable: BAD_VALUE; GIVEN_UP if it is greater than 1200.");
        BlockYard yard = Check.yard("A......./..B...../....C.../......D./E.......");
        check.due("reachable(4)", GIVEN_UP, yard.reachable(4));
        check.outside("reachable", 0, 4, BAD_VALUE, yard::reachable);
    }
}
