/** Promises 27 to 34: goals reached, dead placements, distances, solutions and what can be reached. */
public final class SolveTest {
    private static final Check check = new Check();
    private static final int NONE = BlockYard.NONE;
    private static final int GIVEN_UP = BlockYard.GIVEN_UP;
    private static final int[] WILD = {Integer.MIN_VALUE, -64, -1, 8, 9, 64, 256, Integer.MAX_VALUE};

    public static void main(String[] args) {
        solved();
        deadPlacements();
        deadPlacementsOfLargerBlocks();
        goalsThatNoBlockFits();
        aloneIsAlone();
        turnsAlone();
        distances();
        lowerBounds();
        solutions();
        theOrderOfTheMoves();
        noSolution();
        theAnswerFollowsWhatChanges();
        theLimitOfTheList();
        reachable();
        theLimitOfWhatIsReachable();
        wrongCalls();
        check.end();
    }

    private static void solved() {
        BlockYard yard = Check.yard("A../.../..B");
        check.due("without goals", 1, yard.isSolved());
        yard.setGoal(0, 1, 0, 4);
        check.due("not there", 0, yard.isSolved());
        yard.move(0, 0);
        check.due("there", 1, yard.isSolved());
        yard.move(0, 4);
        check.due("any orientation", 1, yard.isSolved());
        yard.setGoal(0, 1, 0, 0);
        check.due("another orientation", 0, yard.isSolved());
        yard.setGoal(0, 1, 0, 1);
        check.due("this orientation", 1, yard.isSolved());
        yard.setGoal(1, 2, 1, 4);
        check.due("one of two", 0, yard.isSolved());
        yard.move(1, 3);
        check.due("both", 1, yard.isSolved());
        yard.undo();
        check.due("undone", 0, yard.isSolved());
        yard.clearGoal(1);
        check.due("without the second goal", 1, yard.isSolved());
        yard.setGoal(1, 0, 2, 3);
        yard.setGoal(1, 2, 2, 0);
        check.due("with the goal where it is", 1, yard.isSolved());
    }

    private static void deadPlacements() {
        BlockYard yard = Check.yard("A>./###/...");
        check.due("no goal, none dead", 0, yard.deadCount(0));
        check.due("no goal, not dead", 0, yard.isDead(0, 2, 2, 0));
        check.due("no goal, no placement", NONE, yard.isDead(0, 1, 1, 0));
        yard.setGoal(0, 0, 0, 4);
        check.due("the goal", 0, yard.isDead(0, 0, 0, 3));
        check.due("the one-way floor", 0, yard.isDead(0, 1, 0, 0));
        check.due("behind the one-way floor", 1, yard.isDead(0, 2, 0, 0));
        check.due("behind the wall", 1, yard.isDead(0, 0, 2, 2));
        check.due("the wall", NONE, yard.isDead(0, 0, 1, 0));
        check.due("four orientations of four cells", 16, yard.deadCount(0));
        yard.setGoal(0, 0, 0, 2);
        check.due("one can turn at the goal", 16, yard.deadCount(0));
        yard.setGoal(0, 2, 0, 2);
        check.due("along the one-way floor", 12, yard.deadCount(0));
        yard.setGoal(0, 1, 2, 4);
        check.due("all above the wall", 12, yard.deadCount(0));
        check.due("above the wall", 1, yard.isDead(0, 0, 0, 0));
        yard.clearGoal(0);
        check.due("the goal cleared", 0, yard.deadCount(0));
        check.due("the goal cleared", 0, yard.isDead(0, 0, 0, 0));
    }

    private static void deadPlacementsOfLargerBlocks() {
        // in a corridor nothing turns: there are three placements and, turned twice, three more
        BlockYard yard = Check.yard("Aa../####/####");
        yard.setGoal(0, 2, 0, 4);
        check.due("turned twice it comes to the goal as well", 0, yard.isDead(0, 2, 0, 2));
        check.due("its pivot cannot be in the last column", NONE, yard.isDead(0, 3, 0, 0));
        check.due("nor in the first one when turned twice", NONE, yard.isDead(0, 0, 0, 2));
        check.due("it does not fit upright", NONE, yard.isDead(0, 1, 0, 1));
        check.due("none dead with any orientation", 0, yard.deadCount(0));
        yard.setGoal(0, 2, 0, 0);
        check.due("all dead that are turned", 3, yard.deadCount(0));
        check.due("dead where it should be, but turned", 1, yard.isDead(0, 2, 0, 2));
        yard.setGoal(0, 0, 0, 2);
        check.due("a goal that is no placement", 6, yard.deadCount(0));
    }

    private static void goalsThatNoBlockFits() {
        BlockYard yard = Check.yard("A../.#./..B");
        yard.setGoal(0, 1, 1, 4);
        check.due("all dead", 32, yard.deadCount(0));
        check.due("distance", NONE, yard.distance(0));
        check.due("distance of the other", 0, yard.distance(1));
        check.due("lowerBound", NONE, yard.lowerBound());
        check.due("solve", NONE, yard.solve());
        check.due("solution(0)", NONE, yard.solution(0));
        check.due("isSolved", 0, yard.isSolved());
        check.due("reachable does not mind", 9, yard.reachable(1));
    }

    private static void aloneIsAlone() {
        // other blocks, closed gates and strength do not matter
        BlockYard yard = Check.yard("AwB./####/....");
        yard.setWeight(0, 9);
        yard.setStrength(1);
        yard.setGoal(0, 3, 0, 4);
        check.due("distance", 3, yard.distance(0));
        check.due("none dead in this row", 0, yard.isDead(0, 1, 0, 0));
        check.due("where the other block is", 0, yard.isDead(0, 2, 0, 1));
        check.due("dead placements", 16, yard.deadCount(0));
        check.due("lowerBound", 3, yard.lowerBound());
        check.due("solve", NONE, yard.solve());
        check.due("isOpen", 0, yard.isOpen(0));
        // placements it cannot reach count as well
        yard.setGoal(1, 0, 2, 4);
        check.due("the other room", 16, yard.deadCount(1));
    }

    private static void turnsAlone() {
        BlockYard yard = Check.yard("Aa./.v./...");
        yard.setGoal(0, 0, 0, 1);
        check.due("the turn is barred by the one-way floor: down, turn, up", 3, yard.distance(0));
        BlockYard free = Check.yard("Aa./.../...");
        free.setGoal(0, 0, 0, 1);
        check.due("one turn", 1, free.distance(0));
        BlockYard walled = Check.yard("Aa./.#./...");
        walled.setGoal(0, 0, 0, 1);
        check.due("no turn anywhere near a wall in the middle", NONE, walled.distance(0));
        check.due("solve", NONE, walled.solve());
    }

    private static void distances() {
        BlockYard yard = Check.yard("A.../.##./....");
        check.due("without a goal", 0, yard.distance(0));
        yard.setGoal(0, 3, 2, 4);
        check.due("around the walls", 5, yard.distance(0));
        yard.setGoal(0, 3, 2, 1);
        check.due("and a turn", 6, yard.distance(0));
        yard.setGoal(0, 3, 2, 2);
        check.due("and two turns", 7, yard.distance(0));
        yard.setGoal(0, 3, 2, 3);
        check.due("and a turn the other way", 6, yard.distance(0));
        yard.move(0, 5);
        check.due("turned", 5, yard.distance(0));
        Check.play(yard, "ararar");
        check.due("nearer", 2, yard.distance(0));
        Check.play(yard, "adad");
        check.due("there", 0, yard.distance(0));
        BlockYard oneWay = Check.yard("A<../..../....");
        oneWay.setGoal(0, 2, 0, 4);
        check.due("around the one-way floor", 4, oneWay.distance(0));
        BlockYard other = Check.yard("..A./..../....");
        other.setGoal(0, 0, 0, 4);
        check.due("straight", 2, other.distance(0));
    }

    private static void lowerBounds() {
        BlockYard yard = Check.yard("A..B/..../C...");
        check.due("without goals", 0, yard.lowerBound());
        yard.setGoal(0, 1, 0, 4);
        check.due("one", 1, yard.lowerBound());
        yard.setGoal(2, 2, 2, 2);
        check.due("the greatest", 4, yard.lowerBound());
        yard.setGoal(1, 3, 0, 0);
        check.due("one that is there", 4, yard.lowerBound());
        BlockYard dead = Check.yard("A#B/.#./.#.");
        dead.setGoal(0, 0, 2, 4);
        check.due("two", 2, dead.lowerBound());
        dead.setGoal(1, 0, 0, 4);
        check.due("one is dead", NONE, dead.lowerBound());
        check.due("its distance", NONE, dead.distance(1));
        check.due("the other's distance", 2, dead.distance(0));
        dead.clearGoal(1);
        check.due("dead no more", 2, dead.lowerBound());
    }

    private static void isSolution(BlockYard yard, int... moves) {
        check.due("solve", moves.length, yard.solve());
        for (int k = 0; k < moves.length; k++) {
            check.due("solution(" + k + ")", moves[k], yard.solution(k));
        }
        check.due("solution behind the last", NONE, yard.solution(moves.length));
        check.due("solution(max)", NONE, yard.solution(Integer.MAX_VALUE));
        check.due("solution(-1)", BlockYard.BAD_VALUE, yard.solution(-1));
        check.due("solution(min)", BlockYard.BAD_VALUE, yard.solution(Integer.MIN_VALUE));
    }

    private static void solutions() {
        BlockYard yard = Check.yard("A../.../...");
        isSolution(yard);
        yard.setGoal(0, 2, 1, 4);
        String before = Check.picture(yard);
        isSolution(yard, 0, 0, 1);
        check.due("picture", before, Check.picture(yard));
        check.due("undo", NONE, yard.undo());
        yard.setGoal(0, 0, 0, 2);
        isSolution(yard, 4, 4);
        yard.setGoal(0, 0, 0, 3);
        isSolution(yard, 5);
        // one block has to open the gate for the other one
        BlockYard gate = Check.yard("A0#/##./Bw.");
        gate.setGoal(1, 2, 2, 4);
        isSolution(gate, 0, 10, 10);
        // one pushes the other
        BlockYard push = Check.yard("AB../####/....");
        push.setGoal(1, 3, 0, 4);
        push.setGoal(0, 2, 0, 4);
        isSolution(push, 0, 0);
        push.setStrength(1);
        isSolution(push, 10, 0, 10, 0);
    }

    private static void theOrderOfTheMoves() {
        // of several shortest solutions the one that is found first: lower blocks, then lower kinds
        BlockYard yard = Check.yard("A.../..../...B");
        yard.setGoal(0, 1, 1, 4);
        isSolution(yard, 0, 1);
        yard.setGoal(1, 2, 1, 4);
        isSolution(yard, 0, 1, 12, 13);
        BlockYard back = Check.yard("..../..../..B.");
        back.setGoal(1, 1, 1, 2);
        isSolution(back, 12, 13, 14, 14);
    }

    private static void noSolution() {
        BlockYard closed = Check.yard("AwB/###/...");
        closed.setGoal(0, 1, 0, 4);
        check.due("the gate never opens", NONE, closed.solve());
        check.due("solution", NONE, closed.solution(0));
        BlockYard two = Check.yard("A.B/###/...");
        two.setGoal(0, 1, 0, 4);
        two.setGoal(1, 1, 0, 4);
        check.due("two at one goal", NONE, two.solve());
        check.due("lowerBound", 1, two.lowerBound());
        BlockYard heavy = Check.yard("A../.../...");
        heavy.setWeight(0, 2);
        heavy.setStrength(1);
        heavy.setGoal(0, 1, 0, 4);
        check.due("too heavy", NONE, heavy.solve());
        heavy.setGoal(0, 0, 0, 1);
        check.due("but it turns", 1, heavy.solve());
        BlockYard dead = Check.yard("A#B/.#./.#.");
        dead.setGoal(0, 2, 0, 4);
        check.due("dead", NONE, dead.solve());
    }

    private static void theAnswerFollowsWhatChanges() {
        BlockYard yard = Check.yard("A0w./##.#/B...");
        yard.setGoal(0, 3, 0, 4);
        check.due("solve", 3, yard.solve());
        yard.setThreshold(0, 2);
        check.due("another threshold", NONE, yard.solve());
        yard.setWeight(0, 2);
        check.due("another weight", 3, yard.solve());
        yard.setStrength(1);
        check.due("another strength", NONE, yard.solve());
        yard.setStrength(2);
        check.due("and another", 3, yard.solve());
        yard.move(0, 0);
        check.due("a move", 2, yard.solve());
        check.due("its first move", 0, yard.solution(0));
        check.due("no third move", NONE, yard.solution(2));
        yard.move(0, 0);
        check.due("another move", 1, yard.solve());
        yard.undo();
        check.due("undone", 2, yard.solve());
        yard.setGoal(0, 0, 0, 4);
        check.due("another goal", 1, yard.solve());
        check.due("another move", 2, yard.solution(0));
        yard.clearGoal(0);
        check.due("no goal", 0, yard.solve());
        check.due("no moves", NONE, yard.solution(0));
        yard.setGoal(1, 3, 2, 4);
        check.due("for the other block", 3, yard.solve());
        check.due("reachable in between", 8, yard.reachable(1));
        check.due("solution(2)", 10, yard.solution(2));
    }

    private static void theLimitOfTheList() {
        // 5 * 4 placements of A times 15 * 4 of B are just 1200; A's goal is behind a gate that never opens
        BlockYard just = Check.yard("A....w##/########/B......./.......#");
        just.setGoal(0, 5, 0, 4);
        check.due("1200 arrangements", NONE, just.solve());
        check.due("solution", NONE, just.solution(0));
        BlockYard over = Check.yard("A....w##/########/B......./........");
        over.setGoal(0, 5, 0, 4);
        check.due("1280 arrangements", GIVEN_UP, over.solve());
        check.due("solution", GIVEN_UP, over.solution(0));
        check.due("solution(100)", GIVEN_UP, over.solution(100));
        check.due("solution(-1)", BlockYard.BAD_VALUE, over.solution(-1));
        // here the list's 1200th arrangement has A at (6, 1) turned once and B at (6, 0) turned thrice,
        // and the 1201st has A at (6, 1) turned thrice and B at (7, 0)
        BlockYard last = Check.yard("A....#B./......../########");
        last.setGoal(0, 6, 1, 1);
        last.setGoal(1, 6, 0, 3);
        check.due("the last one of the list", 9, last.solve());
        check.due("its last move", 15, last.solution(8));
        last.setGoal(0, 6, 1, 3);
        last.setGoal(1, 7, 0, 0);
        check.due("the first one that finds no place", GIVEN_UP, last.solve());
        check.due("lowerBound", 8, last.lowerBound());
    }

    private static void reachable() {
        BlockYard yard = Check.yard("A../.../...");
        int[] want = {1, 5, 13, 23, 31};
        for (int moves = 0; moves <= 4; moves++) {
            check.due("reachable(" + moves + ")", want[moves], yard.reachable(moves));
        }
        yard.setGoal(0, 1, 1, 0);
        check.due("goals do not matter", 31, yard.reachable(4));
        Check.read(yard, "A>./###/...");
        yard.setGoal(0, 0, 0, 4);
        check.due("dead placements do not matter", 8, yard.reachable(2));
        yard.setWeight(0, 2);
        yard.setStrength(1);
        check.due("strength matters", 4, yard.reachable(4));
        check.due("picture", "A>./###/...", Check.picture(yard));
        BlockYard none = Check.yard(".../.../...");
        check.due("without blocks", 1, none.reachable(4));
        BlockYard gate = Check.yard("A0w/###/...");
        int[] behind = {1, 4, 8, 11, 12};
        for (int moves = 0; moves <= 4; moves++) {
            check.due("gate, reachable(" + moves + ")", behind[moves], gate.reachable(moves));
        }
    }

    private static void theLimitOfWhatIsReachable() {
        check.due("1199", 1199, Check.yard("...#/..../BA.C").reachable(4));
        check.due("1200", 1200, Check.yard("...../...../..B.#/..C../...A./....#").reachable(3));
        check.due("1201", GIVEN_UP, Check.yard("C...../...#../..A.../BD....").reachable(3));
        check.due("1201", GIVEN_UP, Check.yard("..C/A../.B#/##.").reachable(4));
        BlockYard many = Check.yard("A......./..B...../....C.../......D./E.......");
        check.due("many", GIVEN_UP, many.reachable(4));
        check.due("none", 1, many.reachable(0));
        check.due("not so many", 27, many.reachable(1));
    }

    private static void wrongCalls() {
        BlockYard yard = Check.yard("A../.../..C");
        for (int wild : WILD) {
            check.due("isDead of block " + wild, BlockYard.NO_SUCH_BLOCK, yard.isDead(wild, 9, 9, 9));
            check.due("isDead of x " + wild, BlockYard.NO_SUCH_CELL, yard.isDead(0, wild, 0, 9));
            check.due("isDead of y " + wild, BlockYard.NO_SUCH_CELL, yard.isDead(0, 0, wild, 9));
            check.due("isDead of orientation " + wild, BlockYard.BAD_VALUE, yard.isDead(0, 0, 0, wild));
            check.due("deadCount of " + wild, BlockYard.NO_SUCH_BLOCK, yard.deadCount(wild));
            check.due("distance of " + wild, BlockYard.NO_SUCH_BLOCK, yard.distance(wild));
            check.due("reachable of " + wild, BlockYard.BAD_VALUE, yard.reachable(wild));
        }
        check.due("isDead of x 3", BlockYard.NO_SUCH_CELL, yard.isDead(0, 3, 0, 0));
        check.due("isDead of y 3", BlockYard.NO_SUCH_CELL, yard.isDead(0, 0, 3, 0));
        check.due("isDead of orientation 4", BlockYard.BAD_VALUE, yard.isDead(0, 0, 0, 4));
        check.due("isDead of block 1", BlockYard.NO_SUCH_BLOCK, yard.isDead(1, 0, 0, 0));
        check.due("deadCount of block 1", BlockYard.NO_SUCH_BLOCK, yard.deadCount(1));
        check.due("distance of block 1", BlockYard.NO_SUCH_BLOCK, yard.distance(1));
        check.due("reachable(5)", BlockYard.BAD_VALUE, yard.reachable(5));
    }
}
