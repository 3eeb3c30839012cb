import java.util.ArrayList;
import java.util.List;

/** The boundary cases of the sentences on moves: directions, edges, gates, one-way floors, strength and turns. */
public final class RulesBoundsTest {
    private static final Check check = new Check();
    private static final int NOT = BlockYard.NOT_POSSIBLE;
    private static final int[] STEP_X = {1, 0, -1, 0};
    private static final int[] STEP_Y = {0, 1, 0, -1};

    public static void main(String[] args) {
        directions();
        edgesOfTheYard();
        edgesForCellsOfABlock();
        wallsBesideEveryCell();
        orientationsGoRound();
        offsetsOfTurns();
        cellsPassedInTurns();
        theWidestTurn();
        theTurnOfOneCell();
        theTurnOfFiveCells();
        turnsOfSmallerBlocksThanBefore();
        turnsOutOfTheYard();
        turnsPushNothing();
        turnsNeedNoStrength();
        strengthAtItsBounds();
        strengthForOneBlock();
        eachBlockIsWeighedOnce();
        pushedBlocksAreHeldUp();
        oneWayFloors();
        oneWayFloorsForPushedBlocks();
        oneWayFloorsThatAreLeft();
        closedGates();
        gatesAsBeforeTheMove();
        aBlockOnAGateThatCloses();
        ownGatesAlone();
        gatesOfPushedBlocks();
        otherGatesOfTheGroup();
        groupsAndTheirGates();
        check.end();
    }

    private static void directions() {
        check.about("The directions are 0 right (x + 1), 1 down (y + 1), 2 left (x - 1) and 3 up (y - 1).");
        for (int kind = 0; kind < 4; kind++) {
            BlockYard yard = Check.yard(".../.A./...");
            check.due("move(0, " + kind + ")", 1, yard.move(0, kind));
            check.due("x behind " + kind, 1 + STEP_X[kind], yard.block(0, 0));
            check.due("y behind " + kind, 1 + STEP_Y[kind], yard.block(0, 1));
            check.due("orientation behind " + kind, 0, yard.block(0, 2));
        }
    }

    private static void edgesOfTheYard() {
        check.about("A cell is passable for a move if it is in the yard");
        for (int columns = 3; columns <= 8; columns++) {
            for (int rows = 3; rows <= 8; rows++) {
                for (int k = 0; k < columns; k++) {
                    stops(columns, rows, k, 0, 3);
                    stops(columns, rows, k, rows - 1, 1);
                }
                for (int k = 0; k < rows; k++) {
                    stops(columns, rows, 0, k, 2);
                    stops(columns, rows, columns - 1, k, 0);
                }
            }
        }
    }

    /** A block of one cell, however turned, can't be pushed from here in this direction, but back. */
    private static void stops(int columns, int rows, int x, int y, int kind) {
        BlockYard yard = Check.yard(Check.with(Check.floor(columns, rows), x, y, 'A'));
        String call = "from " + x + ", " + y + " of " + columns + " x " + rows + " to " + kind;
        for (int turns = 0; turns < 4; turns++) {
            check.due("moved " + call, NOT, yard.moved(0, kind));
            check.due("moved back " + call, 1, yard.moved(0, kind ^ 2));
            yard.move(0, 4);
        }
    }

    private static void edgesForCellsOfABlock() {
        check.about("all its new cells are passable for it");
        for (int y = 0; y < 8; y++) {
            BlockYard left = Check.yard(Check.with(Check.with(Check.floor(8, 8), 0, y, 'a'), 1, y, 'A'));
            check.due("left", NOT, left.moved(0, 2));
            BlockYard right = Check.yard(Check.with(Check.with(Check.floor(8, 8), 7, y, 'a'), 6, y, 'A'));
            check.due("right", NOT, right.moved(0, 0));
        }
        for (int x = 0; x < 8; x++) {
            BlockYard up = Check.yard(Check.with(Check.with(Check.floor(8, 8), x, 0, 'a'), x, 1, 'A'));
            check.due("up", NOT, up.moved(0, 3));
            BlockYard down = Check.yard(Check.with(Check.with(Check.floor(8, 8), x, 7, 'a'), x, 6, 'A'));
            check.due("down", NOT, down.moved(0, 1));
        }
    }

    private static void wallsBesideEveryCell() {
        check.about("A cell is passable for a move if it .. is not a wall");
        String level = "...../.a.a./..A../.a.a./.....";
        int[][] cells = {{1, 1}, {3, 1}, {2, 2}, {1, 3}, {3, 3}};
        for (int kind = 0; kind < 4; kind++) {
            check.due("without walls", 1, Check.yard(level).moved(0, kind));
            for (int[] cell : cells) {
                String walled = Check.with(level, cell[0] + STEP_X[kind], cell[1] + STEP_Y[kind], '#');
                check.due("moved in " + walled, NOT, Check.yard(walled).moved(0, kind));
            }
            String elsewhere = Check.with(Check.with(level, 0, 0, '#'), 4, 4, '#');
            check.due("moved in " + elsewhere, 1, Check.yard(elsewhere).moved(0, kind));
        }
    }

    private static void orientationsGoRound() {
        check.about("Its orientation, 0 to 3, at first 0, tells by how many quarter turns clockwise it has been turned");
        BlockYard yard = Check.yard(".../.A./...");
        for (int want : new int[] {0, 1, 2, 3, 0, 1}) {
            check.due("clockwise", want, yard.block(0, 2));
            yard.move(0, 4);
        }
        for (int want : new int[] {2, 1, 0, 3, 2, 1, 0}) {
            check.due("counterclockwise", want, yard.block(0, 2));
            yard.move(0, 5);
        }
    }

    private static void offsetsOfTurns() {
        check.about("A cell with the offset (a, b) from the pivot gets the offset (-b, a) by a quarter turn clockwise, "
                + "and (b, -a) by one counterclockwise.");
        for (int a = -3; a <= 3; a++) {
            for (int b = -3; b <= 3; b++) {
                if (a == 0 && b == 0) {
                    continue;
                }
                String level = Check.with(Check.with(Check.floor(7, 7), 3, 3, 'A'), 3 + a, 3 + b, 'a');
                BlockYard yard = Check.yard(level);
                check.due("clockwise from " + a + ", " + b, 1, yard.move(0, 4));
                check.due("the cell", 0, yard.blockAt(3 - b, 3 + a));
                check.due("the pivot", 0, yard.blockAt(3, 3));
                check.due("the cell where it was", BlockYard.NONE, yard.blockAt(3 + a, 3 + b));
                yard.undo();
                check.due("counterclockwise from " + a + ", " + b, 1, yard.move(0, 5));
                check.due("the cell", 0, yard.blockAt(3 + b, 3 - a));
                check.due("the cell where it was", BlockYard.NONE, yard.blockAt(3 + a, 3 + b));
            }
        }
    }

    /** The numbers of the cells 5 * y + x that a cell with this offset from (2, 2) passes. */
    private static List<Integer> passed(int a, int b, boolean clockwise) {
        int radius = Math.max(Math.abs(a), Math.abs(b));
        int x = a;
        int y = b;
        List<Integer> cells = new ArrayList<>();
        for (int k = 0; k < 2 * radius; k++) {
            // clockwise the upper side goes right, the right one down, the lower one left and the left one up
            boolean upper = clockwise ? y == -radius && x < radius : y == -radius && x > -radius;
            boolean lower = clockwise ? y == radius && x > -radius : y == radius && x < radius;
            int sense = clockwise ? 1 : -1;
            if (upper) {
                x += sense;
            } else if (lower) {
                x -= sense;
            } else {
                y += x == radius ? sense : -sense;
            }
            cells.add(5 * (y + 2) + x + 2);
        }
        return cells;
    }

    private static void cellsPassedInTurns() {
        check.about("The turn is possible if all cells that are passed are passable for the block, are no one-way floor"
                + "s, and do not belong to other blocks.");
        for (int a = -2; a <= 2; a++) {
            for (int b = -2; b <= 2; b++) {
                if (a != 0 || b != 0) {
                    somethingInEachCell(a, b);
                }
            }
        }
    }

    private static void somethingInEachCell(int a, int b) {
        String level = Check.with(Check.with(Check.floor(5, 5), 2, 2, 'A'), 2 + a, 2 + b, 'a');
        for (int cell = 0; cell < 25; cell++) {
            if (cell == 12 || cell == 5 * (2 + b) + 2 + a) {
                continue;
            }
            for (char sign : "#><^vwxyzE0123".toCharArray()) {
                BlockYard yard = Check.yard(Check.with(level, cell % 5, cell / 5, sign));
                for (int kind = 4; kind <= 5; kind++) {
                    boolean inTheWay = sign > '3' || sign < '0';
                    boolean stops = inTheWay && passed(a, b, kind == 4).contains(cell);
                    check.due(sign + " in " + cell + " for " + a + ", " + b, stops ? NOT : 1, yard.moved(0, kind));
                }
            }
        }
    }

    private static void theWidestTurn() {
        check.about("it passes 2 * r cells, each next to the one before it on the ring, in the direction of the turn");
        String level = Check.with(Check.with(Check.floor(8, 8), 0, 0, 'A'), 7, 0, 'a');
        check.due("clockwise", 1, Check.yard(level).moved(0, 4));
        check.due("counterclockwise, out of the yard", NOT, Check.yard(level).moved(0, 5));
        for (int y = 0; y < 8; y++) {
            for (int x = 0; x < 8; x++) {
                boolean isPassed = (x == 7 || y == 7) && y > 0;
                if (y > 0 || x > 0 && x < 7) {
                    BlockYard yard = Check.yard(Check.with(level, x, y, '#'));
                    check.due("with a wall in " + x + ", " + y, isPassed ? NOT : 1, yard.moved(0, 4));
                }
            }
        }
    }

    private static void theTurnOfOneCell() {
        check.about("it passes 2 * r cells: none if r is 0");
        BlockYard walled = Check.yard("#A#/###/###");
        check.due("between walls", 1, walled.move(0, 4));
        check.due("orientation", 1, walled.block(0, 2));
        BlockYard oneWay = Check.yard("A>./.../...");
        oneWay.move(0, 0);
        check.due("on a one-way floor", 1, oneWay.moved(0, 4));
        check.due("on a one-way floor", 1, oneWay.moved(0, 5));
        BlockYard gate = Check.yard("A0w/.../...");
        Check.play(gate, "arar");
        check.due("the gate has closed", 0, gate.isOpen(0));
        check.due("on a closed gate", 1, gate.moved(0, 4));
    }

    private static void theTurnOfFiveCells() {
        check.about("A block consists of 1 to 5 cells: all of them turn, and no more");
        String rest = "/...../...../...../.....";
        String before = "...../...../...../...../";
        check.due("clockwise down", 1, Check.yard("Aaaaa" + rest).moved(0, 4));
        check.due("counterclockwise up", NOT, Check.yard("Aaaaa" + rest).moved(0, 5));
        check.due("counterclockwise down", 1, Check.yard("aaaaA" + rest).moved(0, 5));
        check.due("clockwise up", NOT, Check.yard("aaaaA" + rest).moved(0, 4));
        check.due("counterclockwise up", 1, Check.yard(before + "Aaaaa").moved(0, 5));
        check.due("clockwise down", NOT, Check.yard(before + "Aaaaa").moved(0, 4));
        check.due("clockwise up", 1, Check.yard(before + "aaaaA").moved(0, 4));
        check.due("counterclockwise down", NOT, Check.yard(before + "aaaaA").moved(0, 5));
        BlockYard round = Check.yard(".a./aAa/.a.");
        for (int kind = 4; kind <= 5; kind++) {
            for (int k = 0; k < 4; k++) {
                check.due("a turn", 1, round.move(0, kind) > 0 ? 1 : 0);
                check.due("picture", ".a./aAa/.a.", Check.picture(round));
            }
        }
        // each one of the five is held up by a wall on its own way
        int[][] ways = {{1, 1}, {2, 2}, {3, 3}, {4, 4}};
        for (int[] way : ways) {
            String level = Check.with("Aaaaa" + rest, way[0], way[1], '#');
            check.due("clockwise in " + level, NOT, Check.yard(level).moved(0, 4));
        }
    }

    private static void turnsOfSmallerBlocksThanBefore() {
        check.about("it replaces the present level: no cell of a block is left");
        BlockYard yard = Check.yard("aaaaA/...../.....");
        Check.read(yard, "#A#/###/###");
        check.inside("a block of one cell", 4, 5, 1, kind -> yard.moved(0, kind));
        Check.read(yard, "Aa./..#/###");
        check.due("a block of two cells", 1, yard.moved(0, 4));
    }

    private static void turnsOutOfTheYard() {
        check.about("The turn is possible if all cells that are passed are passable: if they are in the yard");
        check.due("over the upper edge", NOT, Check.yard("aA./.../...").moved(0, 4));
        check.due("over the right edge", NOT, Check.yard("..a/..A/...").moved(0, 4));
        check.due("over the lower edge", NOT, Check.yard(".../.../.Aa").moved(0, 4));
        check.due("over the left edge", NOT, Check.yard(".../A../a..").moved(0, 4));
        check.due("over the upper edge", NOT, Check.yard(".Aa/.../...").moved(0, 5));
        check.due("over the right edge", NOT, Check.yard(".../..A/..a").moved(0, 5));
        check.due("over the lower edge", NOT, Check.yard(".../.../aA.").moved(0, 5));
        check.due("over the left edge", NOT, Check.yard("a../A../...").moved(0, 5));
        check.due("along the upper edge", 1, Check.yard("a../A../...").moved(0, 4));
        check.due("along the right edge", 1, Check.yard("..a/..A/...").moved(0, 5));
        check.due("along the lower edge", 1, Check.yard(".../.../aA.").moved(0, 4));
        check.due("along the left edge", 1, Check.yard(".../A../a..").moved(0, 5));
        // in a yard of 8 columns the next row begins behind the edge
        String wide = Check.with(Check.with(Check.floor(8, 8), 7, 4, 'A'), 7, 3, 'a');
        check.due("from the last column", NOT, Check.yard(wide).moved(0, 4));
        String first = Check.with(Check.with(Check.floor(8, 8), 0, 4, 'A'), 0, 3, 'a');
        check.due("from the first column", NOT, Check.yard(first).moved(0, 5));
    }

    private static void turnsPushNothing() {
        check.about("do not belong to other blocks");
        BlockYard yard = Check.yard("Aa../.B../..../....");
        check.due("into another block", NOT, yard.move(0, 4));
        check.due("the other block", 1, yard.blockAt(1, 1));
        yard.move(1, 0);
        check.due("past it", 2, yard.move(0, 4));
        BlockYard own = Check.yard("..../.Aa./.aa./....");
        check.due("over its own cells", 1, own.moved(0, 4));
    }

    private static void turnsNeedNoStrength() {
        check.about("The push is possible if .. the sum of the weights .. is at most the strength: of turns this is not "
                + "said");
        BlockYard yard = Check.yard("Aa./.../...");
        yard.setWeight(0, 9);
        yard.setStrength(1);
        check.due("a push", NOT, yard.moved(0, 1));
        check.due("a turn", 1, yard.move(0, 4));
    }

    private static void strengthAtItsBounds() {
        check.about("the sum of the weights of all moved blocks is at most the strength (1 to 45, at first 45)");
        BlockYard yard = Check.yard("ABCDE.../......../........");
        for (int block = 0; block < 5; block++) {
            yard.setWeight(block, 9);
        }
        check.due("45 at first", 31, yard.moved(0, 0));
        yard.setStrength(44);
        check.due("45 of 44", NOT, yard.moved(0, 0));
        check.due("36 of 44", 30, yard.moved(1, 0));
        yard.setStrength(36);
        check.due("36 of 36", 30, yard.moved(1, 0));
        yard.setStrength(35);
        check.due("36 of 35", NOT, yard.moved(1, 0));
        check.due("27 of 35", 28, yard.moved(2, 0));
        yard.setStrength(45);
        check.due("45 of 45", 1, yard.move(0, 0));
    }

    private static void strengthForOneBlock() {
        check.about("at most the strength (1 to 45 ..)");
        BlockYard yard = Check.yard(".../.A./...");
        for (int weight = 1; weight <= 9; weight++) {
            yard.setWeight(0, weight);
            for (int strength = 1; strength <= 10; strength++) {
                yard.setStrength(strength);
                int want = weight <= strength ? 1 : NOT;
                check.due("a weight of " + weight + " with " + strength, want, yard.moved(0, 0));
            }
        }
    }

    private static void eachBlockIsWeighedOnce() {
        check.about("the sum of the weights of all moved blocks");
        BlockYard one = Check.yard("Aaa./aa../....");
        one.setWeight(0, 9);
        one.setStrength(9);
        check.due("five cells", 1, one.moved(0, 0));
        one.setStrength(8);
        check.due("five cells that are too heavy", NOT, one.moved(0, 0));
        BlockYard rows = Check.yard("Aaaaa/Bbbbb/Ccccc/Ddddd/Eeeee/.....");
        for (int block = 0; block < 5; block++) {
            rows.setWeight(block, 9);
        }
        check.due("five blocks of five cells", 31, rows.moved(0, 1));
        rows.setStrength(44);
        check.due("five blocks that are too heavy", NOT, rows.moved(0, 1));
        check.due("four of them", 30, rows.moved(1, 1));
    }

    private static void pushedBlocksAreHeldUp() {
        check.about("The push is possible if for each block that is moved all its new cells are passable for it");
        check.due("the second at the edge", NOT, Check.yard(".AB/.../...").moved(0, 0));
        check.due("the second at a wall", NOT, Check.yard("AB#./..../....").moved(0, 0));
        check.due("the second at a closed gate", NOT, Check.yard("ABw./..../....").moved(0, 0));
        check.due("the fifth at the edge", NOT, Check.yard("ABCDE/...../.....").moved(0, 0));
        check.due("the fifth at a wall", NOT, Check.yard("ABCDE#/....../......").moved(0, 0));
        check.due("the fifth with room", 31, Check.yard("ABCDE./....../......").moved(0, 0));
        check.due("another cell of the second", NOT, Check.yard("AB../..../.b#./....").moved(0, 0));
        check.due("against the order of numbers", 31, Check.yard("EDCBA./....../......").moved(4, 0));
        check.due("the last one alone", 1, Check.yard("EDCBA./....../......").moved(0, 0));
    }

    private static void oneWayFloors() {
        check.about("none of its cells comes to a one-way floor of another direction");
        for (int kind = 0; kind < 4; kind++) {
            for (int way = 0; way < 4; way++) {
                String level = Check.with(".../.A./...", 1 + STEP_X[kind], 1 + STEP_Y[kind], ">v<^".charAt(way));
                check.due("moved in " + level, kind == way ? 1 : NOT, Check.yard(level).moved(0, kind));
            }
        }
        // each one of several one-way floors counts
        check.due("the first of two", NOT, Check.yard("Av./av./...").moved(0, 0));
        check.due("of two that differ", NOT, Check.yard("A>./av./...").moved(0, 0));
        check.due("of two that differ", NOT, Check.yard("Av./a>./...").moved(0, 0));
        check.due("two of its direction", 1, Check.yard("A>./a>./...").moved(0, 0));
        check.due("two of its direction, and another", 1, Check.yard("A>v/a>v/...").moved(0, 0));
        check.due("the first cell, and one of this direction elsewhere", NOT, Check.yard("v.^/A../...").moved(0, 3));
        check.due("the last cell, and one of this direction elsewhere", NOT, Check.yard("v../..A/v.^").moved(0, 1));
    }

    private static void oneWayFloorsForPushedBlocks() {
        check.about("if for each block that is moved .. none of its cells comes to a one-way floor");
        check.due("the second", NOT, Check.yard("ABv/.../...").moved(0, 0));
        check.due("the second on its way", 3, Check.yard("AB>/.../...").moved(0, 0));
        // the first comes to the one-way floor on which the second was
        BlockYard yard = Check.yard(".B../Av../..../....");
        Check.play(yard, "bd");
        check.due("picture", "..../AB../..../....", Check.picture(yard));
        check.due("onto the floor under the other", NOT, yard.moved(0, 0));
        check.due("the other alone", 2, yard.moved(1, 0));
    }

    private static void oneWayFloorsThatAreLeft() {
        check.about("none of its cells comes to a one-way floor: what it leaves does not matter");
        for (int way = 0; way < 4; way++) {
            String level = Check.with("...../...../...../...../.....", 2, 2, ">v<^".charAt(way));
            level = Check.with(level, 2 - STEP_X[way], 2 - STEP_Y[way], 'A');
            BlockYard yard = Check.yard(level);
            yard.move(0, way);
            check.inside("moved from it", 0, 5, 1, kind -> yard.moved(0, kind));
        }
    }

    private static void closedGates() {
        check.about("A cell is passable for a move if it .. is not a closed gate");
        for (int group = 0; group < 4; group++) {
            char gate = "wxyz".charAt(group);
            BlockYard yard = Check.yard("B" + group + "./.A" + gate + "/..." );
            check.due("closed", NOT, yard.moved(0, 0));
            yard.setThreshold(group, 2);
            yard.move(1, 0);
            check.due("a load of 1 for 2", NOT, yard.moved(0, 0));
            yard.setThreshold(group, 1);
            check.due("a load of 1 for 1", 1, yard.moved(0, 0));
        }
        check.due("the first of two gates", NOT, Check.yard("Aw./a../w..").moved(0, 0));
        check.due("two gates of one group", NOT, Check.yard("Aw./.w./...").moved(0, 0));
        check.due("two gates of two groups", NOT, Check.yard("Aw./x../...").moved(0, 0));
        check.due("two gates of two groups", NOT, Check.yard("Aw./x../...").moved(0, 1));
    }

    private static void gatesAsBeforeTheMove() {
        check.about("gates are open or closed as they are before the move");
        // the push takes the load off the plate: the gate is open before it
        BlockYard off = Check.yard("A0w/.../...");
        off.move(0, 0);
        check.due("from the plate onto the gate", 2, off.move(0, 0));
        check.due("closed then", 0, off.isOpen(0));
        // the push brings the load onto the plate: the gate is closed before it
        BlockYard on = Check.yard(".../A.a/0.w");
        check.due("onto the plate and the gate at once", NOT, on.move(0, 1));
        // a pushed block comes onto the plate: the gate is closed before it
        BlockYard pushed = Check.yard("AB0/aw./...");
        check.due("onto the gate while the other comes onto the plate", NOT, pushed.moved(0, 0));
        // the turn takes the load off the plate, and back it would bring it there
        BlockYard turned = Check.yard("..../Aa0./..w./....");
        turned.move(0, 0);
        check.due("from the plate past the open gate", 2, turned.move(0, 4));
        check.due("closed then", 0, turned.isOpen(0));
        check.due("to the plate past the closed gate", NOT, turned.move(0, 5));
    }

    private static void aBlockOnAGateThatCloses() {
        check.about("A block may stay on a gate that closes.");
        BlockYard yard = Check.yard("A0B/..w/...");
        Check.play(yard, "arbdal");
        check.due("closed", 0, yard.isOpen(0));
        check.due("blockAt", 1, yard.blockAt(2, 1));
        check.inside("moved from the gate", 1, 5, 2, kind -> yard.moved(1, kind));
        check.due("out of the yard", NOT, yard.moved(1, 0));
        yard.move(1, 1);
        check.due("back onto the gate", NOT, yard.moved(1, 3));
    }

    private static void ownGatesAlone() {
        check.about("a gate on which the block has a cell before the move is passable for this block.");
        // a and A on one gate each: a comes to the gate of A, and A to floor
        BlockYard own = Check.yard("aA0w./...../.....");
        Check.play(own, "arar");
        own.setThreshold(0, 45);
        check.due("the gate of another cell of the block", 1, own.moved(0, 0));
        // B stands on a closed gate; A would push it off and come there: for A it is closed
        BlockYard other = Check.yard("B0C./Aw../..../....");
        check.due("moves", 6, Check.play(other, "cladbdbraucr"));
        check.due("picture", ".0C./AB../..../....", Check.picture(other));
        check.due("closed", 0, other.isOpen(0));
        check.due("for the one that pushes", NOT, other.moved(0, 0));
        check.due("for the one that stands there", 2, other.moved(1, 0));
        other.move(2, 2);
        check.due("open for both", 3, other.moved(0, 0));
    }

    private static void gatesOfPushedBlocks() {
        check.about("a gate on which the block has a cell before the move is passable for this block: also for one that "
                + "is pushed, and for no other");
        // A pushes B from behind, of which the hind cell comes to the gate of the front one
        BlockYard pushed = Check.yard("bB0w./A..../.....");
        check.due("moves", 4, Check.play(pushed, "brbrauar"));
        check.due("picture", ".AbB./...../.....", Check.picture(pushed));
        pushed.setThreshold(0, 45);
        check.due("closed", 0, pushed.isOpen(0));
        check.due("a pushed block and its own gate", 3, pushed.moved(0, 0));
        // B is between the cells of A and would come to the gate of A's front cell
        BlockYard between = Check.yard("A.a.C/..w.0/.B...");
        check.due("moves", 4, Check.play(between, "cdadbucu"));
        check.due("picture", "....C/ABa.0/.....", Check.picture(between));
        check.due("closed", 0, between.isOpen(0));
        check.due("a pushed block and the gate of the one that pushes", NOT, between.moved(0, 0));
        between.move(2, 1);
        check.due("open", 3, between.moved(0, 0));
    }

    private static void otherGatesOfTheGroup() {
        check.about("a gate on which the block has a cell: not another gate of the group");
        BlockYard yard = Check.yard("A0ww/..../....");
        Check.play(yard, "arar");
        check.due("closed", 0, yard.isOpen(0));
        check.due("from gate to gate", NOT, yard.moved(0, 0));
        check.due("from the gate to floor", 1, yard.moved(0, 1));
    }

    private static void groupsAndTheirGates() {
        check.about("10 to 13 gate of the group 0 to 3");
        for (int group = 0; group < 4; group++) {
            for (int gates = 0; gates < 4; gates++) {
                BlockYard yard = Check.yard("A" + group + "./.../B" + "wxyz".charAt(gates) + ".");
                yard.move(0, 0);
                check.due("gate " + gates + " with a load on " + group, group == gates ? 2 : NOT, yard.moved(1, 0));
            }
        }
    }
}
