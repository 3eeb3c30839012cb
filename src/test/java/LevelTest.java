/** Promises 1 and 6 to 16: a new object, the yard, the blocks, goals, thresholds and loads. */
public final class LevelTest {
    private static final Check check = new Check();
    private static final int[] WILD = {Integer.MIN_VALUE, -64, -8, -1, 8, 9, 46, 64, 256, Integer.MAX_VALUE};

    public static void main(String[] args) {
        aNewObject();
        sizes();
        cells();
        blocksInCells();
        propertiesOfBlocks();
        weights();
        goals();
        thresholdsAndStrength();
        loads();
        errorsChangeNothing();
        check.end();
    }

    private static void aNewObject() {
        BlockYard yard = new BlockYard();
        check.due("columns", 3, yard.size(0));
        check.due("rows", 3, yard.size(1));
        check.due("blocks", 0, yard.size(2));
        check.due("strength", 45, yard.size(3));
        check.due("picture", ".../.../...", Check.picture(yard));
        for (int block = -1; block <= 5; block++) {
            check.due("block " + block, BlockYard.NO_SUCH_BLOCK, yard.block(block, 0));
        }
        for (int group = 0; group < 4; group++) {
            check.due("load", 0, yard.load(group));
            check.due("isOpen", 0, yard.isOpen(group));
            check.due("threshold", 1, yard.setThreshold(group, 1));
            check.due("restore", BlockYard.NONE, yard.restore(group));
        }
        check.due("effort", 0, yard.effort());
        check.due("moveAt", BlockYard.NONE, yard.moveAt(0));
        check.due("possible", BlockYard.NONE, yard.possible(0));
        check.due("solution", BlockYard.NONE, yard.solution(0));
        check.due("text", 0, yard.clearText());
    }

    private static void sizes() {
        BlockYard yard = Check.yard("A....../......./......./...B...");
        check.due("size(0)", 7, yard.size(0));
        check.due("size(1)", 4, yard.size(1));
        check.due("size(2)", 2, yard.size(2));
        check.due("size(3)", 45, yard.size(3));
        check.due("size(4)", BlockYard.BAD_VALUE, yard.size(4));
        for (int what : WILD) {
            check.due("size(" + what + ")", BlockYard.BAD_VALUE, yard.size(what));
        }
    }

    private static void cells() {
        BlockYard yard = Check.yard("#..>/.A../z..w");
        check.due("cell(0, 0)", 1, yard.cell(0, 0));
        check.due("cell(3, 0)", 2, yard.cell(3, 0));
        check.due("cell under a block", 0, yard.cell(1, 1));
        check.due("cell(0, 2)", 13, yard.cell(0, 2));
        check.due("cell(3, 2)", 10, yard.cell(3, 2));
        check.due("cell(4, 2)", BlockYard.NO_SUCH_CELL, yard.cell(4, 2));
        check.due("cell(3, 3)", BlockYard.NO_SUCH_CELL, yard.cell(3, 3));
        check.due("blockAt(4, 2)", BlockYard.NO_SUCH_CELL, yard.blockAt(4, 2));
        check.due("blockAt(3, 3)", BlockYard.NO_SUCH_CELL, yard.blockAt(3, 3));
        for (int wild : WILD) {
            check.due("cell(" + wild + ", 0)", BlockYard.NO_SUCH_CELL, yard.cell(wild, 0));
            check.due("cell(0, " + wild + ")", BlockYard.NO_SUCH_CELL, yard.cell(0, wild));
            check.due("blockAt(" + wild + ", 0)", BlockYard.NO_SUCH_CELL, yard.blockAt(wild, 0));
            check.due("blockAt(0, " + wild + ")", BlockYard.NO_SUCH_CELL, yard.blockAt(0, wild));
        }
    }

    private static void blocksInCells() {
        BlockYard yard = Check.yard("aA.e/...E/.c.C");
        int[][] want = {{0, 0, -7, 4}, {-7, -7, -7, 4}, {-7, 2, -7, 2}};
        for (int y = 0; y < 3; y++) {
            for (int x = 0; x < 4; x++) {
                check.due("blockAt(" + x + ", " + y + ")", want[y][x], yard.blockAt(x, y));
            }
        }
        yard.move(0, 0);
        check.due("blockAt where it was", BlockYard.NONE, yard.blockAt(0, 0));
        check.due("blockAt where it is", 0, yard.blockAt(2, 0));
    }

    private static void propertiesOfBlocks() {
        BlockYard yard = Check.yard("..../.A.a/..a./d.D.");
        int[] want = {1, 1, 0, 1, 3, -7, -7, -7};
        int[] wantOther = {2, 3, 0, 1, 2, -7, -7, -7};
        for (int what = 0; what < 8; what++) {
            check.due("block(0, " + what + ")", want[what], yard.block(0, what));
            check.due("block(3, " + what + ")", wantOther[what], yard.block(3, what));
            check.due("block(1, " + what + ")", BlockYard.NO_SUCH_BLOCK, yard.block(1, what));
        }
        yard.setGoal(3, 3, 2, 1);
        check.due("block(3, 5)", 3, yard.block(3, 5));
        check.due("block(3, 6)", 2, yard.block(3, 6));
        check.due("block(3, 7)", 1, yard.block(3, 7));
        check.due("block(0, 5)", BlockYard.NONE, yard.block(0, 5));
        for (int wild : WILD) {
            check.due("block(" + wild + ", 0)", BlockYard.NO_SUCH_BLOCK, yard.block(wild, 0));
            check.due("block(" + wild + ", 9)", BlockYard.NO_SUCH_BLOCK, yard.block(wild, 9));
            check.due("block(0, " + wild + ")", BlockYard.BAD_VALUE, yard.block(0, wild));
        }
        check.due("block(4, 8)", BlockYard.NO_SUCH_BLOCK, yard.block(4, 8));
    }

    private static void weights() {
        BlockYard yard = Check.yard("A../.../..C");
        check.due("setWeight(0, 9)", 1, yard.setWeight(0, 9));
        check.due("setWeight(0, 1)", 9, yard.setWeight(0, 1));
        check.due("setWeight(2, 4)", 1, yard.setWeight(2, 4));
        check.due("weight of 0", 1, yard.block(0, 3));
        check.due("weight of 2", 4, yard.block(2, 3));
        check.due("setWeight(0, 0)", BlockYard.BAD_VALUE, yard.setWeight(0, 0));
        check.due("setWeight(0, 10)", BlockYard.BAD_VALUE, yard.setWeight(0, 10));
        check.due("setWeight(1, 0)", BlockYard.NO_SUCH_BLOCK, yard.setWeight(1, 0));
        check.due("setWeight(-1, 3)", BlockYard.NO_SUCH_BLOCK, yard.setWeight(-1, 3));
        check.due("setWeight(5, 3)", BlockYard.NO_SUCH_BLOCK, yard.setWeight(5, 3));
        check.due("weight of 0", 1, yard.block(0, 3));
    }

    private static void goals() {
        BlockYard yard = Check.yard("A.#/.../..C");
        check.due("clearGoal without one", 0, yard.clearGoal(0));
        check.due("setGoal", 1, yard.setGoal(0, 0, 0, 0));
        check.due("setGoal again", 0, yard.setGoal(0, 0, 0, 0));
        check.due("setGoal with another orientation", 1, yard.setGoal(0, 0, 0, 4));
        check.due("setGoal with another column", 1, yard.setGoal(0, 1, 0, 4));
        check.due("setGoal with another row", 1, yard.setGoal(0, 1, 2, 4));
        check.due("setGoal again", 0, yard.setGoal(0, 1, 2, 4));
        check.due("setGoal on a wall", 1, yard.setGoal(2, 2, 0, 3));
        check.due("x", 1, yard.block(0, 5));
        check.due("y", 2, yard.block(0, 6));
        check.due("orientation", 4, yard.block(0, 7));
        check.due("clearGoal", 1, yard.clearGoal(0));
        check.due("clearGoal again", 0, yard.clearGoal(0));
        check.due("x without a goal", BlockYard.NONE, yard.block(0, 5));
        check.due("the other goal", 3, yard.block(2, 7));
        check.due("setGoal anew", 1, yard.setGoal(0, 1, 2, 4));
        check.due("no block, no cell", BlockYard.NO_SUCH_BLOCK, yard.setGoal(1, 3, 0, 5));
        check.due("no cell, no orientation", BlockYard.NO_SUCH_CELL, yard.setGoal(0, 3, 0, 5));
        check.due("no cell", BlockYard.NO_SUCH_CELL, yard.setGoal(0, 0, 3, 0));
        check.due("orientation -1", BlockYard.BAD_VALUE, yard.setGoal(0, 0, 0, -1));
        check.due("orientation 5", BlockYard.BAD_VALUE, yard.setGoal(0, 0, 0, 5));
        for (int wild : WILD) {
            check.due("x " + wild, BlockYard.NO_SUCH_CELL, yard.setGoal(0, wild, 0, 0));
            check.due("y " + wild, BlockYard.NO_SUCH_CELL, yard.setGoal(0, 0, wild, 0));
            check.due("block " + wild, BlockYard.NO_SUCH_BLOCK, yard.setGoal(wild, 0, 0, 0));
            check.due("clearGoal " + wild, BlockYard.NO_SUCH_BLOCK, yard.clearGoal(wild));
        }
        check.due("the goal is still there", 0, yard.setGoal(0, 1, 2, 4));
    }

    private static void thresholdsAndStrength() {
        BlockYard yard = new BlockYard();
        for (int group = 0; group < 4; group++) {
            check.due("threshold at first", 1, yard.setThreshold(group, 10 + group));
        }
        for (int group = 0; group < 4; group++) {
            check.due("threshold then", 10 + group, yard.setThreshold(group, 45));
        }
        check.due("setThreshold(0, 0)", BlockYard.BAD_VALUE, yard.setThreshold(0, 0));
        check.due("setThreshold(0, 46)", BlockYard.BAD_VALUE, yard.setThreshold(0, 46));
        check.due("setThreshold(-1, 5)", BlockYard.BAD_VALUE, yard.setThreshold(-1, 5));
        check.due("setThreshold(4, 5)", BlockYard.BAD_VALUE, yard.setThreshold(4, 5));
        check.due("threshold at last", 45, yard.setThreshold(0, 1));
        check.due("setStrength(1)", 45, yard.setStrength(1));
        check.due("setStrength(45)", 1, yard.setStrength(45));
        check.due("setStrength(7)", 45, yard.setStrength(7));
        check.due("setStrength(0)", BlockYard.BAD_VALUE, yard.setStrength(0));
        check.due("setStrength(46)", BlockYard.BAD_VALUE, yard.setStrength(46));
        check.due("size(3)", 7, yard.size(3));
        for (int wild : WILD) {
            check.due("group " + wild, BlockYard.BAD_VALUE, yard.setThreshold(wild, 1));
            check.due("load " + wild, BlockYard.BAD_VALUE, yard.load(wild));
            check.due("isOpen " + wild, BlockYard.BAD_VALUE, yard.isOpen(wild));
        }
        check.due("load(4)", BlockYard.BAD_VALUE, yard.load(4));
        check.due("isOpen(4)", BlockYard.BAD_VALUE, yard.isOpen(4));
    }

    private static void loads() {
        BlockYard yard = Check.yard("Aa.B/0012/..3.");
        yard.setWeight(0, 4);
        yard.setWeight(1, 5);
        check.due("load before", 0, yard.load(0));
        yard.move(0, 1);
        check.due("two cells on plates count once", 4, yard.load(0));
        check.due("open", 1, yard.isOpen(0));
        yard.setThreshold(0, 4);
        check.due("as much as the threshold", 1, yard.isOpen(0));
        yard.setThreshold(0, 5);
        check.due("less than the threshold", 0, yard.isOpen(0));
        yard.move(1, 1);
        check.due("load of group 2", 5, yard.load(2));
        check.due("load of group 1", 0, yard.load(1));
        check.due("load of group 3", 0, yard.load(3));
        Check.play(yard, "blaubl");
        check.due("one on plates of group 0", 5, yard.load(0));
        check.due("none on plates of group 1", 0, yard.load(1));
        Check.play(yard, "brad");
        check.due("picture", "..../AaB2/..3.", Check.picture(yard));
        check.due("load of group 0", 4, yard.load(0));
        check.due("load of group 1", 5, yard.load(1));
        Check.play(yard, "ar");
        check.due("picture", "..../0AaB/..3.", Check.picture(yard));
        check.due("one block on two groups", 4, yard.load(0));
        check.due("one block on two groups", 4, yard.load(1));
        check.due("pushed onto a plate", 5, yard.load(2));
        yard.setWeight(0, 9);
        check.due("another weight", 9, yard.load(1));
        BlockYard both = Check.yard("AB./00./...");
        Check.play(both, "adbd");
        check.due("two blocks on one group", 2, both.load(0));
        both.setThreshold(0, 2);
        check.due("open by two blocks", 1, both.isOpen(0));
        both.move(1, 3);
        check.due("closed by one that left", 0, both.isOpen(0));
    }

    private static void errorsChangeNothing() {
        BlockYard yard = Check.yard("A../.../..C");
        yard.setGoal(0, 2, 2, 3);
        yard.setWeight(0, 10);
        yard.setGoal(0, 3, 1, 1);
        yard.setGoal(0, 1, 1, 5);
        yard.setStrength(0);
        yard.setThreshold(0, 0);
        check.due("weight", 1, yard.block(0, 3));
        check.due("goal's x", 2, yard.block(0, 5));
        check.due("goal's y", 2, yard.block(0, 6));
        check.due("goal's orientation", 3, yard.block(0, 7));
        check.due("strength", 45, yard.size(3));
        check.due("threshold", 1, yard.setThreshold(0, 1));
    }
}
