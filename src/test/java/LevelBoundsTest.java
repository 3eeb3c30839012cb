/** The boundary cases of promises 6 to 16 and of the sentences on yards, blocks and gates. */
public final class LevelBoundsTest {
    private static final Check check = new Check();
    private static final int NO_SUCH_BLOCK = BlockYard.NO_SUCH_BLOCK;
    private static final int NO_SUCH_CELL = BlockYard.NO_SUCH_CELL;
    private static final int BAD_VALUE = BlockYard.BAD_VALUE;
    private static final int NONE = BlockYard.NONE;

    public static void main(String[] args) {
        sizes();
        wrongSizes();
        cellsOfEveryYard();
        cellsOutside();
        blocksInEveryCorner();
        cellsOfNoBlock();
        blocksOutside();
        properties();
        theNumberOfCells();
        blocksThatDoNotExist();
        wrongProperties();
        goalsThatDoNotExist();
        weights();
        wrongWeights();
        weightsOfNoBlock();
        goalsThatChange();
        goalsInEveryCorner();
        goalsOfNoBlock();
        goalsOutside();
        wrongOrientationsOfGoals();
        clearedGoals();
        thresholds();
        wrongThresholds();
        strengths();
        wrongStrengths();
        theLeastLoad();
        theGreatestLoad();
        onceForEachBlock();
        wrongGroups();
        openAtTheThreshold();
        openAtTheGreatestThreshold();
        check.end();
    }

    /** Five blocks of two cells, one of which is on a plate of group 0 after a push down. */
    private static BlockYard fiveHeavyBlocks() {
        BlockYard yard = Check.yard("AaBbCcDd/0.0.0.0./Ee....../.0....../........");
        for (int block = 0; block < 5; block++) {
            yard.setWeight(block, 9);
        }
        return yard;
    }

    // ---- promise 6

    private static void sizes() {
        check.about("0 for the number of columns, 1 for the number of rows, 2 for the number of blocks, 3 for the str"
                + "ength");
        BlockYard least = Check.yard(Check.floor(3, 8));
        check.due("fewest columns", 3, least.size(0));
        check.due("most rows", 8, least.size(1));
        check.due("fewest blocks", 0, least.size(2));
        check.due("strength at first", 45, least.size(3));
        BlockYard most = Check.yard("ABCDE.../......../........");
        most.setStrength(1);
        check.due("most columns", 8, most.size(0));
        check.due("fewest rows", 3, most.size(1));
        check.due("most blocks", 5, most.size(2));
        check.due("least strength", 1, most.size(3));
    }

    private static void wrongSizes() {
        check.about("size: BAD_VALUE");
        BlockYard yard = Check.yard("A../.../...");
        check.outside("size", 0, 3, BAD_VALUE, yard::size);
    }

    // ---- promises 7 and 8

    private static void cellsOfEveryYard() {
        check.about("The yard has 3 to 8 columns (x from 0, from left to right) and 3 to 8 rows (y from 0, from top to "
                + "bottom).");
        for (int columns = 3; columns <= 8; columns++) {
            for (int rows = 3; rows <= 8; rows++) {
                String level = Check.with(Check.floor(columns, rows), columns - 1, 0, '#');
                BlockYard yard = Check.yard(Check.with(level, 0, rows - 1, '>'));
                check.due("upper left", 0, yard.cell(0, 0));
                check.due("upper right", 1, yard.cell(columns - 1, 0));
                check.due("lower left", 2, yard.cell(0, rows - 1));
                check.due("lower right", 0, yard.cell(columns - 1, rows - 1));
            }
        }
    }

    private static void cellsOutside() {
        check.about("cell: NO_SUCH_CELL");
        for (int columns = 3; columns <= 8; columns++) {
            for (int rows = 3; rows <= 8; rows++) {
                BlockYard yard = Check.yard(Check.floor(columns, rows));
                int right = columns - 1;
                int bottom = rows - 1;
                check.outside("cell(x, 0)", 0, right, NO_SUCH_CELL, x -> yard.cell(x, 0));
                check.outside("cell(x, 1)", 0, right, NO_SUCH_CELL, x -> yard.cell(x, 1));
                check.outside("cell(x, bottom)", 0, right, NO_SUCH_CELL, x -> yard.cell(x, bottom));
                check.outside("cell(0, y)", 0, bottom, NO_SUCH_CELL, y -> yard.cell(0, y));
                check.outside("cell(1, y)", 0, bottom, NO_SUCH_CELL, y -> yard.cell(1, y));
                check.outside("cell(right, y)", 0, bottom, NO_SUCH_CELL, y -> yard.cell(right, y));
                check.outside("cell(k, k)", 0, 7, NO_SUCH_CELL, k -> yard.cell(k, k));
            }
        }
    }

    private static void blocksInEveryCorner() {
        check.about("Returns the block to which the cell belongs");
        for (int columns = 3; columns <= 8; columns++) {
            for (int rows = 3; rows <= 8; rows++) {
                String level = Check.with(Check.floor(columns, rows), 0, 0, 'A');
                level = Check.with(level, columns - 1, 0, 'b');
                level = Check.with(level, 0, rows - 1, 'E');
                BlockYard yard = Check.yard(Check.with(level, columns - 1, rows - 1, 'B'));
                check.due("upper left", 0, yard.blockAt(0, 0));
                check.due("upper right", 1, yard.blockAt(columns - 1, 0));
                check.due("lower left", 4, yard.blockAt(0, rows - 1));
                check.due("lower right", 1, yard.blockAt(columns - 1, rows - 1));
            }
        }
    }

    private static void cellsOfNoBlock() {
        check.about("blockAt: NONE");
        BlockYard yard = Check.yard(".#>v/<^01/23wx/yzEe");
        check.inside("blockAt of cell", 0, 13, NONE, k -> yard.blockAt(k % 4, k / 4));
        check.due("blockAt(2, 3)", 4, yard.blockAt(2, 3));
        check.due("blockAt(3, 3)", 4, yard.blockAt(3, 3));
    }

    private static void blocksOutside() {
        check.about("blockAt: NO_SUCH_CELL");
        BlockYard full = Check.yard("aaAaa/bbBbb/ccCcc/ddDdd/eeEee");
        for (int k = 0; k < 5; k++) {
            int at = k;
            check.outside("blockAt(x, " + at + ")", 0, 4, NO_SUCH_CELL, x -> full.blockAt(x, at));
            check.outside("blockAt(" + at + ", y)", 0, 4, NO_SUCH_CELL, y -> full.blockAt(at, y));
        }
    }

    // ---- promise 9

    private static void properties() {
        check.about("0 for x and 1 for y of its pivot, 2 for its orientation, 3 for its weight, 4 for the number of it"
                + "s cells, 5 for x and 6 for y of its goal, 7 for the orientation of its goal (4 for any)");
        for (int block = 0; block < 5; block++) {
            String level = Check.with(Check.floor(8, 7), 7, 6, (char) ('A' + block));
            BlockYard yard = Check.yard(level);
            yard.move(block, 5);
            yard.setWeight(block, 9);
            yard.setGoal(block, 7, 5, 4);
            int[] want = {7, 6, 3, 9, 1, 7, 5, 4};
            for (int what = 0; what < 8; what++) {
                check.due("block(" + block + ", " + what + ")", want[what], yard.block(block, what));
            }
            yard.setGoal(block, 0, 0, 0);
            int number = block;
            check.inside("goal in the first cell", 5, 7, 0, what -> yard.block(number, what));
        }
        BlockYard first = Check.yard("A../.../...");
        int[] atFirst = {0, 0, 0, 1, 1, NONE, NONE, NONE};
        for (int what = 0; what < 8; what++) {
            check.due("block(0, " + what + ") at first", atFirst[what], first.block(0, what));
        }
    }

    private static void theNumberOfCells() {
        check.about("A block consists of 1 to 5 cells");
        String[] levels = {"A..../...../.....", "Aa.../...../.....", "Aaa../...../.....", "Aaaa./...../.....",
            "Aaaaa/...../....."};
        for (int k = 0; k < 5; k++) {
            check.due("number of cells", k + 1, Check.yard(levels[k]).block(0, 4));
        }
        check.due("cells that are not connected", 5, Check.yard("a...a/..A../a...a").block(0, 4));
    }

    private static void blocksThatDoNotExist() {
        check.about("block: NO_SUCH_BLOCK");
        BlockYard yard = Check.yard(".../.C./...");
        for (int what : new int[] {0, 7, -1, 8}) {
            check.outside("block(number, " + what + ")", 0, 4, NO_SUCH_BLOCK, number -> yard.block(number, what));
            check.inside("block(number, " + what + ")", 0, 1, NO_SUCH_BLOCK, number -> yard.block(number, what));
            check.inside("block(number, " + what + ")", 3, 4, NO_SUCH_BLOCK, number -> yard.block(number, what));
        }
        check.due("block(2, 0)", 1, yard.block(2, 0));
    }

    private static void wrongProperties() {
        check.about("block: NO_SUCH_BLOCK; BAD_VALUE; NONE for 5 to 7 if it has no goal.");
        BlockYard yard = Check.yard("A../.../...");
        check.outside("block(0, what)", 0, 7, BAD_VALUE, what -> yard.block(0, what));
        yard.setGoal(0, 0, 0, 0);
        check.outside("block(0, what) with a goal", 0, 7, BAD_VALUE, what -> yard.block(0, what));
    }

    private static void goalsThatDoNotExist() {
        check.about("NONE for 5 to 7 if it has no goal.");
        BlockYard yard = Check.yard("AB./.../...");
        yard.setGoal(1, 0, 0, 0);
        check.inside("without a goal", 5, 7, NONE, what -> yard.block(0, what));
        check.inside("with a goal", 5, 7, 0, what -> yard.block(1, what));
        yard.clearGoal(1);
        check.inside("with a cleared goal", 5, 7, NONE, what -> yard.block(1, what));
    }

    // ---- promise 10

    private static void weights() {
        check.about("a weight from 1 to 9, at first 1");
        for (int block = 0; block < 5; block++) {
            BlockYard yard = Check.yard("ABCDE/...../.....");
            int number = block;
            int before = 1;
            for (int weight : new int[] {1, 9, 1, 5, 5}) {
                check.due("setWeight(" + block + ", " + weight + ")", before, yard.setWeight(block, weight));
                check.due("weight", weight, yard.block(block, 3));
                before = weight;
            }
            check.inside("weight of another", 0, 4, 1, k -> k == number ? 1 : yard.block(k, 3));
        }
    }

    private static void wrongWeights() {
        check.about("setWeight: BAD_VALUE");
        BlockYard yard = Check.yard("A../.../...");
        yard.setWeight(0, 7);
        check.outside("setWeight(0, weight)", 1, 9, BAD_VALUE, weight -> yard.setWeight(0, weight));
        check.due("weight", 7, yard.block(0, 3));
    }

    private static void weightsOfNoBlock() {
        check.about("setWeight: NO_SUCH_BLOCK; BAD_VALUE.");
        BlockYard yard = Check.yard("A../.../..C");
        check.outside("setWeight(number, 5)", 0, 4, NO_SUCH_BLOCK, number -> yard.setWeight(number, 5));
        check.outside("setWeight(number, 0)", 0, 4, NO_SUCH_BLOCK, number -> yard.setWeight(number, 0));
        check.outside("setWeight(number, 10)", 0, 4, NO_SUCH_BLOCK, number -> yard.setWeight(number, 10));
        check.due("setWeight(1, 5)", NO_SUCH_BLOCK, yard.setWeight(1, 5));
        check.due("setWeight(1, 10)", NO_SUCH_BLOCK, yard.setWeight(1, 10));
        check.due("weight of 0", 1, yard.block(0, 3));
        check.due("weight of 2", 1, yard.block(2, 3));
    }

    // ---- promises 11 and 12

    private static void goalsThatChange() {
        check.about("Returns 1 if this changes the goal, otherwise 0");
        BlockYard yard = Check.yard("A../.../..B");
        check.due("the first one", 1, yard.setGoal(0, 0, 0, 0));
        check.due("the same", 0, yard.setGoal(0, 0, 0, 0));
        check.due("another orientation", 1, yard.setGoal(0, 0, 0, 1));
        check.due("any orientation", 1, yard.setGoal(0, 0, 0, 4));
        check.due("the same", 0, yard.setGoal(0, 0, 0, 4));
        check.due("another row", 1, yard.setGoal(0, 0, 1, 4));
        check.due("another column", 1, yard.setGoal(0, 1, 1, 4));
        check.due("back", 1, yard.setGoal(0, 0, 0, 4));
        check.due("for another block", 1, yard.setGoal(1, 0, 0, 4));
        check.due("the first block's one is the same", 0, yard.setGoal(0, 0, 0, 4));
        yard.clearGoal(0);
        check.due("the same behind clearGoal", 1, yard.setGoal(0, 0, 0, 4));
        yard.move(0, 0);
        check.due("the same behind a move", 0, yard.setGoal(0, 0, 0, 4));
    }

    private static void goalsInEveryCorner() {
        check.about("setGoal: x: column, y: row, orientation: 0 to 3, or 4 for any");
        BlockYard yard = Check.yard(Check.with(Check.floor(7, 4), 0, 0, 'A'));
        for (int[] corner : new int[][] {{0, 0}, {6, 0}, {0, 3}, {6, 3}}) {
            for (int orientation = 0; orientation <= 4; orientation++) {
                check.due("setGoal", 1, yard.setGoal(0, corner[0], corner[1], orientation));
                check.due("x", corner[0], yard.block(0, 5));
                check.due("y", corner[1], yard.block(0, 6));
                check.due("orientation", orientation, yard.block(0, 7));
            }
        }
        BlockYard walled = Check.yard("A#./.../...");
        check.due("a cell that is a wall", 1, walled.setGoal(0, 1, 0, 4));
        check.due("a cell where it does not fit", 1, Check.yard("Aa./.../...").setGoal(0, 2, 2, 0));
    }

    private static void goalsOfNoBlock() {
        check.about("setGoal: NO_SUCH_BLOCK; NO_SUCH_CELL; BAD_VALUE.");
        BlockYard yard = Check.yard("A../.../..C");
        for (int[] rest : new int[][] {{0, 0, 0}, {3, 0, 0}, {0, 3, 5}, {0, 0, -1}, {-1, -1, -1}}) {
            check.outside("setGoal of a number", 0, 4, NO_SUCH_BLOCK,
                    number -> yard.setGoal(number, rest[0], rest[1], rest[2]));
            check.due("setGoal of block 1", NO_SUCH_BLOCK, yard.setGoal(1, rest[0], rest[1], rest[2]));
            check.due("setGoal of block 3", NO_SUCH_BLOCK, yard.setGoal(3, rest[0], rest[1], rest[2]));
        }
        check.inside("goal of", 0, 0, NONE, number -> yard.block(number, 5));
    }

    private static void goalsOutside() {
        check.about("setGoal: NO_SUCH_CELL; BAD_VALUE.");
        BlockYard yard = Check.yard("A.../..../....");
        yard.setGoal(0, 2, 1, 3);
        for (int orientation : new int[] {0, 4, 5, -1}) {
            check.outside("setGoal(0, x, 0, ..)", 0, 3, NO_SUCH_CELL, x -> yard.setGoal(0, x, 0, orientation));
            check.outside("setGoal(0, x, 1, ..)", 0, 3, NO_SUCH_CELL, x -> yard.setGoal(0, x, 1, orientation));
            check.outside("setGoal(0, 0, y, ..)", 0, 2, NO_SUCH_CELL, y -> yard.setGoal(0, 0, y, orientation));
            check.outside("setGoal(0, 3, y, ..)", 0, 2, NO_SUCH_CELL, y -> yard.setGoal(0, 3, y, orientation));
        }
        check.due("the goal stays", 0, yard.setGoal(0, 2, 1, 3));
    }

    private static void wrongOrientationsOfGoals() {
        check.about("setGoal: BAD_VALUE");
        BlockYard yard = Check.yard("A../.../...");
        check.outside("setGoal(0, 0, 0, orientation)", 0, 4, BAD_VALUE, o -> yard.setGoal(0, 0, 0, o));
        check.due("no goal", NONE, yard.block(0, 7));
        yard.setGoal(0, 0, 0, 2);
        check.outside("setGoal(0, 0, 0, orientation)", 0, 4, BAD_VALUE, o -> yard.setGoal(0, 0, 0, o));
        check.due("the goal stays", 0, yard.setGoal(0, 0, 0, 2));
    }

    private static void clearedGoals() {
        check.about("Returns 1 if it had one, otherwise 0; NO_SUCH_BLOCK.");
        BlockYard yard = Check.yard("A../.../..C");
        yard.setGoal(2, 0, 0, 4);
        check.due("without one", 0, yard.clearGoal(0));
        check.due("with one", 1, yard.clearGoal(2));
        check.due("again", 0, yard.clearGoal(2));
        yard.setGoal(0, 0, 0, 0);
        check.outside("clearGoal", 0, 4, NO_SUCH_BLOCK, yard::clearGoal);
        check.due("clearGoal(1)", NO_SUCH_BLOCK, yard.clearGoal(1));
        check.due("clearGoal(4)", NO_SUCH_BLOCK, yard.clearGoal(4));
        check.due("the one of 0 was still there", 1, yard.clearGoal(0));
    }

    // ---- promises 13 and 14

    private static void thresholds() {
        check.about("its threshold (1 to 45, at first 1)");
        BlockYard yard = new BlockYard();
        for (int group = 0; group < 4; group++) {
            int before = 1;
            for (int threshold : new int[] {1, 45, 1, 44, 2 + group}) {
                check.due("setThreshold", before, yard.setThreshold(group, threshold));
                before = threshold;
            }
        }
        check.inside("each group has its own", 0, 3, 0, group -> yard.setThreshold(group, 1) - 2 - group);
    }

    private static void wrongThresholds() {
        check.about("setThreshold: BAD_VALUE.");
        BlockYard yard = new BlockYard();
        for (int k = 0; k < 4; k++) {
            int group = k;
            yard.setThreshold(group, 40 + group);
            check.outside("threshold", 1, 45, BAD_VALUE, threshold -> yard.setThreshold(group, threshold));
        }
        for (int threshold : new int[] {1, 45, 0, 46}) {
            check.outside("group", 0, 3, BAD_VALUE, group -> yard.setThreshold(group, threshold));
        }
        check.inside("thresholds stay", 0, 3, 0, group -> yard.setThreshold(group, 1) - 40 - group);
    }

    private static void strengths() {
        check.about("the strength (1 to 45, at first 45)");
        BlockYard yard = new BlockYard();
        int before = 45;
        for (int strength : new int[] {45, 1, 45, 44, 2, 2}) {
            check.due("setStrength", before, yard.setStrength(strength));
            check.due("size(3)", strength, yard.size(3));
            before = strength;
        }
    }

    private static void wrongStrengths() {
        check.about("setStrength: BAD_VALUE.");
        BlockYard yard = new BlockYard();
        yard.setStrength(33);
        check.outside("setStrength", 1, 45, BAD_VALUE, yard::setStrength);
        check.due("size(3)", 33, yard.size(3));
    }

    // ---- promises 15 and 16

    private static void theLeastLoad() {
        check.about("all blocks that have at least one cell on a plate of this group");
        BlockYard yard = Check.yard("A.B/0.1/2.3");
        check.inside("nothing on plates", 0, 3, 0, yard::load);
        yard.move(0, 1);
        check.due("one", 1, yard.load(0));
        check.inside("none on the others", 1, 3, 0, yard::load);
        yard.move(0, 1);
        check.due("none any more", 0, yard.load(0));
        check.due("one on the other", 1, yard.load(2));
        check.inside("without blocks", 0, 3, 0, group -> Check.yard("012/3../...").load(group));
        check.inside("without plates", 0, 3, 0, group -> Check.yard("A.w/x../.yz").load(group));
    }

    private static void theGreatestLoad() {
        check.about("The load of a group is the sum of the weights");
        BlockYard yard = fiveHeavyBlocks();
        check.due("none", 0, yard.load(0));
        check.due("the first push of block 4", 1, yard.move(4, 1));
        check.due("block 4", 9, yard.load(0));
        for (int block = 0; block < 4; block++) {
            check.due("push", block + 2, yard.move(block, 1));
            check.due("so many blocks", 9 * (block + 2), yard.load(0));
        }
        check.due("45", 45, yard.load(0));
        check.inside("the other groups", 1, 3, 0, yard::load);
        yard.undo();
        check.due("undone", 36, yard.load(0));
    }

    private static void onceForEachBlock() {
        check.about("the sum of the weights of all blocks");
        BlockYard yard = Check.yard("Aaaaa/00123/.....");
        yard.setWeight(0, 4);
        yard.move(0, 1);
        check.inside("five cells, four groups", 0, 3, 4, yard::load);
        yard.setWeight(0, 9);
        check.inside("another weight", 0, 3, 9, yard::load);
    }

    private static void wrongGroups() {
        check.about("load and isOpen: BAD_VALUE.");
        BlockYard yard = fiveHeavyBlocks();
        check.outside("load", 0, 3, BAD_VALUE, yard::load);
        check.outside("isOpen", 0, 3, BAD_VALUE, yard::isOpen);
    }

    private static void openAtTheThreshold() {
        check.about("The gates of a group are open if its load is at least its threshold");
        for (int group = 0; group < 4; group++) {
            BlockYard yard = Check.yard("A../.../...".replace("/...", "/" + group + group + group));
            check.due("no load", 0, yard.isOpen(group));
            yard.move(0, 1);
            check.due("a load of 1 at the first threshold", 1, yard.isOpen(group));
            yard.setWeight(0, 5);
            for (int threshold = 1; threshold <= 45; threshold++) {
                yard.setThreshold(group, threshold);
                check.due("5 of " + threshold, threshold <= 5 ? 1 : 0, yard.isOpen(group));
            }
            int own = group;
            check.inside("another group", 0, 3, 0, k -> k == own ? 0 : yard.isOpen(k));
        }
    }

    private static void openAtTheGreatestThreshold() {
        check.about("its threshold (1 to 45 ..)");
        BlockYard yard = fiveHeavyBlocks();
        yard.setThreshold(0, 45);
        Check.play(yard, "edadbdcd");
        check.due("36 of 45", 0, yard.isOpen(0));
        yard.move(3, 1);
        check.due("45 of 45", 1, yard.isOpen(0));
        yard.setWeight(2, 8);
        check.due("44 of 45", 0, yard.isOpen(0));
        yard.setThreshold(0, 44);
        check.due("44 of 44", 1, yard.isOpen(0));
    }
}
