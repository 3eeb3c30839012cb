/** The boundary cases of the sentences on texts and of promises 1 to 5, each with a test of its own. */
public final class TextBoundsTest {
    private static final Check check = new Check();
    private static final int NONE = BlockYard.NONE;
    private static final int FULL = BlockYard.FULL;
    private static final String LEVEL_SIGNS = "./#>v<^0123wxyzabcdeABCDE";
    private static final String FULL_TEXT = "at".repeat(40);

    public static void main(String[] args) {
        aNewYard();
        theFirstText();
        lengthsUpTo80();
        noMoreThan80();
        anyCharacter();
        aFullTextStays();
        emptying();
        fewestAndMostRows();
        theFirstRow();
        theOtherRows();
        textsThatEndTooEarly();
        levelsOfManySigns();
        everySignOfALevel();
        secondPivots();
        sixthCells();
        cellsWithoutPivot();
        faultsOfAnotherText();
        otherFaultsComeFirst();
        numberOfBlocks();
        theTextOfALevelStays();
        whatALevelSetsBack();
        whatALevelLeaves();
        theGroundBefore();
        noMoves();
        fullTextsOfMoves();
        everyLetterForABlock();
        lettersWithoutBlock();
        everyLetterForAKind();
        movesThatEndTooEarly();
        movesAfterTheOnesBefore();
        faultsOfMovesChangeNothing();
        the200thMove();
        the201stMove();
        faultsBeforeFull();
        check.end();
    }

    private static void level(String text, int want) {
        check.due("readLevel of \"" + text + "\"", want, Check.levelAnswer(text));
    }

    // ---- promise 1

    private static void aNewYard() {
        check.about("Creates a yard of 3 columns and 3 rows, all floor, without blocks.");
        BlockYard yard = new BlockYard();
        check.due("size(0)", 3, yard.size(0));
        check.due("size(1)", 3, yard.size(1));
        check.due("size(2)", 0, yard.size(2));
        for (int k = 0; k < 3; k++) {
            int at = k;
            check.inside("cell(" + at + ", y)", 0, 2, 0, y -> yard.cell(at, y));
            check.inside("blockAt(" + at + ", y)", 0, 2, NONE, y -> yard.blockAt(at, y));
            check.outside("cell(" + at + ", y)", 0, 2, BlockYard.NO_SUCH_CELL, y -> yard.cell(at, y));
            check.outside("cell(x, " + at + ")", 0, 2, BlockYard.NO_SUCH_CELL, x -> yard.cell(x, at));
        }
        check.inside("block(number, 0)", -1, 5, BlockYard.NO_SUCH_BLOCK, number -> yard.block(number, 0));
    }

    // ---- promises 2 and 3

    private static void theFirstText() {
        check.about("There is a text of at most 80 characters, empty at first.");
        check.due("clearText", 0, new BlockYard().clearText());
        check.due("readMoves", 0, new BlockYard().readMoves());
        check.due("readLevel", -100, new BlockYard().readLevel());
    }

    private static void lengthsUpTo80() {
        check.about("Returns the length of the text then");
        BlockYard yard = new BlockYard();
        for (int k = 1; k <= 80; k++) {
            check.due("type of sign " + k, k, yard.type('.'));
        }
    }

    private static void noMoreThan80() {
        check.about("FULL if it has 80 characters.");
        BlockYard yard = new BlockYard();
        Check.retype(yard, FULL_TEXT);
        for (int k = 81; k <= 90; k++) {
            check.due("type of sign " + k, FULL, yard.type('.'));
        }
        check.due("clearText", 80, yard.clearText());
        check.due("type then", 1, yard.type('.'));
    }

    private static void anyCharacter() {
        check.about("character: any character");
        for (int sign = 0; sign <= 65535; sign += 85) {
            check.due("type of " + sign, 1, new BlockYard().type((char) sign));
        }
    }

    private static void aFullTextStays() {
        check.about("A call that reports an error changes nothing.");
        BlockYard yard = Check.yard("A../.../...");
        Check.retype(yard, FULL_TEXT);
        yard.type('l');
        check.due("readMoves of the first 80 signs", 40, yard.readMoves());
    }

    private static void emptying() {
        check.about("Empties the text. Returns the length that it had.");
        for (int length : new int[] {0, 1, 2, 79, 80}) {
            BlockYard yard = Check.yard("A../.../...");
            Check.retype(yard, FULL_TEXT.substring(0, length));
            check.due("clearText", length, yard.clearText());
            check.due("clearText again", 0, yard.clearText());
            check.due("readMoves then", 0, yard.readMoves());
            check.due("readLevel then", -100, yard.readLevel());
            check.due("type then", 1, yard.type('a'));
            check.due("readMoves of the new sign alone", -101, yard.readMoves());
        }
    }

    // ---- promise 4

    private static void fewestAndMostRows() {
        check.about("A level consists of 3 to 8 rows, separated by \"/\"");
        for (int columns = 3; columns <= 8; columns++) {
            String one = Check.floor(columns, 1);
            String two = Check.floor(columns, 2);
            level(one, -100 - one.length());
            level(two, -100 - two.length());
            level(two + "/", -100 - two.length() - 1);
            for (int rows = 3; rows <= 8; rows++) {
                BlockYard yard = new BlockYard();
                check.due(columns + " x " + rows, 0, Check.read(yard, Check.floor(columns, rows)));
                check.due("columns", columns, yard.size(0));
                check.due("rows", rows, yard.size(1));
            }
            String eight = Check.floor(columns, 8);
            level(eight + "/", -100 - eight.length());
            level(eight + "/" + one, -100 - eight.length());
        }
    }

    private static void theFirstRow() {
        check.about("the first one has 3 to 8 characters");
        level("/", -100);
        level("./", -101);
        level("../", -102);
        level("../../..", -102);
        level(Check.floor(3, 3), 0);
        level(Check.floor(8, 3), 0);
        level(Check.floor(9, 3), -108);
        level(Check.floor(80, 1), -108);
    }

    private static void theOtherRows() {
        check.about("the others as many as the first one");
        level(".../../...", -106);
        level(".../..../...", -107);
        level(".../.../../...", -110);
        level(".../.../....", -111);
        level(".../.../.../../...", -114);
        level("......../......./........", -116);
        level("......../........./........", -117);
        level("....//....", -105);
        level("..../..../", -110);
        level("..../..../..../", -115);
        level("..../..../....//", -115);
    }

    private static void textsThatEndTooEarly() {
        check.about("its fault is .. its length if it ends too early.");
        String whole = "A...b/...../..B..";
        for (int length = 0; length < whole.length(); length++) {
            level(whole.substring(0, length), -100 - length);
        }
        level(whole, 2);
        for (int more = 1; more < 6; more++) {
            level(whole + "/.....".substring(0, more), -100 - whole.length() - more);
        }
        level(whole + "/.....", 2);
    }

    private static void levelsOfManySigns() {
        check.about("There is a text of at most 80 characters");
        String largest = Check.floor(8, 8);
        level(largest, 0);
        level(largest + ".........", -171);
        level(largest + "/........", -171);
        level(FULL_TEXT, -101);
        level("/".repeat(80), -100);
    }

    /** What is due for a level with this sign at the index 8 and the pivots of all blocks from the index 12. */
    private static int answerFor(char sign) {
        if (LEVEL_SIGNS.indexOf(sign) < 0 || sign == '/') {
            return -108;
        }
        return sign >= 'A' && sign <= 'E' ? -112 - (sign - 'A') : 5;
    }

    private static void everySignOfALevel() {
        check.about("The characters are ..");
        for (int sign = 0; sign < 768; sign++) {
            level("...../.." + (char) sign + "../ABCDE", answerFor((char) sign));
        }
        for (char sign : LEVEL_SIGNS.toCharArray()) {
            for (int high : new int[] {0x0300, 0x1000, 0x8000, 0xff00}) {
                level("...../.." + (char) (high + sign) + "../ABCDE", -108);
            }
        }
        String kinds = ".#>v<^0123wxyzabcde";
        for (int k = 0; k < kinds.length(); k++) {
            BlockYard yard = Check.yard("...../.." + kinds.charAt(k) + "../ABCDE");
            check.due("kind of " + kinds.charAt(k), k < 14 ? k : 0, yard.cell(2, 1));
            check.due("block of " + kinds.charAt(k), k < 14 ? NONE : k - 14, yard.blockAt(2, 1));
        }
    }

    private static String renamed(String level, int block) {
        return level.replace('a', (char) ('a' + block)).replace('A', (char) ('A' + block));
    }

    private static void secondPivots() {
        check.about("A second pivot .. of a block [is] not allowed at [its] place.");
        for (int block = 0; block < 5; block++) {
            level(renamed("A../.../...", block), 1);
            level(renamed("AA./.../...", block), -101);
            level(renamed("A../.../..A", block), -110);
            level(renamed("aA./.../aaA", block), -110);
            level(renamed("A.A/A../...", block), -102);
        }
    }

    private static void sixthCells() {
        check.about("a sixth cell (the pivot counts) of a block [is] not allowed at [its] place.");
        for (int block = 0; block < 5; block++) {
            level(renamed("Aaaaa/...../.....", block), 1);
            level(renamed("aaaaA/...../.....", block), 1);
            level(renamed("A...a/..a../a...a", block), 1);
            level(renamed("Aaaaa/a..../.....", block), -106);
            level(renamed("aaaaa/A..../.....", block), -106);
            level(renamed("aaaaa/a..../.....", block), -106);
            level(renamed("aaAaa/...../....a", block), -116);
            level(renamed("aaAaa/...../...aa", block), -115);
        }
        level("aaAaa/bbBbb/ccCcc/ddDdd/eeEee", 5);
        level("aaAaa/bbBbb/ccCcc/ddDdd/eeEee/....e", -134);
    }

    private static void cellsWithoutPivot() {
        check.about("a block has cells and no pivot, the fault is the index of the first cell of such a block.");
        for (int block = 0; block < 5; block++) {
            level(renamed("a../.../...", block), -100);
            level(renamed(".../.../..a", block), -110);
            level(renamed(".../.a./aaa", block), -105);
            level(renamed("..aaa/aa.../.....", block), -102);
            level(renamed("a../.../A..", block), 1);
        }
        level("aa./.a./..a", -100);
        level(".b./a../...", -101);
        level(".a./b../...", -101);
        level(".../a.b/...", -104);
        level(".../b.a/...", -104);
        level("Bb./.a./..a", -105);
        level("Cdb/aDA/...", -102);
        level("Aa./bB./..c", -110);
    }

    private static void faultsOfAnotherText() {
        check.about("the fault is the index of the first cell of such a block: of this text, not of one before");
        BlockYard yard = new BlockYard();
        String[] levels = {".../..a/...", "..a/.../...", ".../.../..a", "a../a../...", ".../a../..."};
        int[] faults = {6, 2, 10, 0, 4};
        for (int k = 0; k < levels.length; k++) {
            check.due("readLevel of " + levels[k], -100 - faults[k], Check.read(yard, levels[k]));
        }
        check.due("a second pivot", -101, Check.read(yard, "AA./.../..."));
        check.due("a first one", 1, Check.read(yard, "A../.../..."));
        check.due("a sixth cell", -106, Check.read(yard, "Aaaaa/a..../....."));
        check.due("a fifth one", 1, Check.read(yard, "Aaaaa/...../....."));
    }

    private static void otherFaultsComeFirst() {
        check.about("If there is no fault by this, but a block has cells and no pivot");
        level("a../.../..?", -110);
        level("a../.../..", -110);
        level("a../.../...?", -111);
        level("a../...", -107);
        level("a../B.B/...", -106);
        level("aaaaa/a..../.....", -106);
    }

    private static void numberOfBlocks() {
        check.about("Returns the number of blocks");
        for (int set = 0; set < 32; set++) {
            StringBuilder row = new StringBuilder();
            for (int block = 0; block < 5; block++) {
                row.append((set >> block & 1) != 0 ? (char) ('A' + block) : '.');
            }
            BlockYard yard = new BlockYard();
            check.due("readLevel of the blocks " + set, Integer.bitCount(set), Check.read(yard, row + "/...../....."));
            check.due("size(2)", Integer.bitCount(set), yard.size(2));
            for (int block = 0; block < 5; block++) {
                int want = (set >> block & 1) != 0 ? block : BlockYard.NO_SUCH_BLOCK;
                check.due("x of block " + block + " of " + set, want, yard.block(block, 0));
            }
        }
    }

    private static void theTextOfALevelStays() {
        check.about("Reads a level from the text, which stays.");
        BlockYard yard = new BlockYard();
        Check.retype(yard, "A../.../...");
        check.due("readLevel", 1, yard.readLevel());
        yard.move(0, 0);
        check.due("readLevel again", 1, yard.readLevel());
        check.due("x of the pivot", 0, yard.block(0, 0));
        check.due("type", 12, yard.type('/'));
        check.due("readLevel of what ends too early", -112, yard.readLevel());
        check.due("clearText", 12, yard.clearText());
    }

    /** A yard with another weight, orientation, goal, with moves made and undone, and all slots full. */
    private static BlockYard usedYard() {
        BlockYard yard = Check.yard("A../.../..B");
        yard.setWeight(0, 9);
        yard.setGoal(0, 2, 0, 1);
        Check.play(yard, "atarad");
        yard.undo();
        for (int slot = 0; slot < 4; slot++) {
            yard.save(slot);
        }
        return yard;
    }

    private static void whatALevelSetsBack() {
        check.about("blocks have the weight 1, the orientation 0 and no goal, and there are no moves and saved arrange"
                + "ments.");
        BlockYard yard = usedYard();
        check.due("readLevel", 2, Check.read(yard, "A../.../..B"));
        check.due("x", 0, yard.block(0, 0));
        check.due("weight", 1, yard.block(0, 3));
        check.due("orientation", 0, yard.block(0, 2));
        check.inside("block(0, what)", 5, 7, NONE, what -> yard.block(0, what));
        check.due("isSolved", 1, yard.isSolved());
        check.due("solve", 0, yard.solve());
        check.due("moveAt(0)", NONE, yard.moveAt(0));
        check.due("effort", 0, yard.effort());
        check.due("undo", NONE, yard.undo());
        check.due("redo", NONE, yard.redo());
        check.inside("restore", 0, 3, NONE, yard::restore);
        check.inside("save", 0, 3, 1, yard::save);
        check.due("the first move", 1, yard.move(0, 0));
        BlockYard five = Check.yard("ABCDE/...../.....");
        for (int block = 0; block < 5; block++) {
            five.setWeight(block, 2 + block);
            five.setGoal(block, block, 1, block);
            five.move(block, 4);
        }
        Check.read(five, "ABCDE/...../.....");
        for (int block = 0; block < 5; block++) {
            check.due("weight of " + block, 1, five.block(block, 3));
            check.due("orientation of " + block, 0, five.block(block, 2));
            check.due("goal of " + block, NONE, five.block(block, 7));
            check.due("number of cells of " + block, 1, five.block(block, 4));
        }
        check.due("solved", 1, five.isSolved());
        Check.read(five, "...../...../.....");
        check.inside("no block any more", 0, 4, BlockYard.NO_SUCH_BLOCK, block -> five.block(block, 0));
        // a block that has been away for a level begins anew as well
        BlockYard away = usedYard();
        Check.read(away, ".../.../..B");
        check.due("block 0", BlockYard.NO_SUCH_BLOCK, away.block(0, 3));
        check.due("cells without block 0", NONE, away.blockAt(0, 0));
        Check.read(away, ".../A../..B");
        check.due("weight", 1, away.block(0, 3));
        check.due("goal", NONE, away.block(0, 5));
        check.due("number of cells", 1, away.block(0, 4));
    }

    private static void whatALevelLeaves() {
        check.about("Thresholds and strength stay.");
        BlockYard yard = usedYard();
        for (int group = 0; group < 4; group++) {
            yard.setThreshold(group, 45 - group);
        }
        yard.setStrength(2);
        Check.read(yard, "AB./.../...");
        check.due("strength", 2, yard.size(3));
        check.due("two blocks", 3, yard.moved(0, 0));
        for (int group = 0; group < 4; group++) {
            check.due("threshold of " + group, 45 - group, yard.setThreshold(group, 1));
        }
        yard.setStrength(1);
        Check.read(yard, "AB./.../...");
        check.due("two blocks", BlockYard.NOT_POSSIBLE, yard.moved(0, 0));
    }

    private static void theGroundBefore() {
        check.about("it replaces the present level");
        for (char sign : "#>v<^0123wxyz".toCharArray()) {
            BlockYard yard = Check.yard(".../.../...".replace('.', sign));
            check.due("readLevel", 1, Check.read(yard, ".../.Aa/..."));
            check.due("cell under a block", 0, yard.cell(1, 1));
            check.due("cell beside it", 0, yard.cell(0, 1));
            check.due("moves", 8, Check.play(yard, "atasalarauadadau"));
            check.inside("load", 0, 3, 0, yard::load);
            yard.setGoal(0, 0, 0, 4);
            check.due("deadCount", 0, yard.deadCount(0));
        }
        for (int before = 0; before < 4; before++) {
            for (int now = 0; now < 4; now++) {
                BlockYard yard = Check.yard("...".replace('.', ">v<^".charAt(before)) + "/.../...");
                Check.read(yard, ".#./.A./...".replace('#', ">v<^".charAt(now)));
                int want = now == 3 ? 1 : BlockYard.NOT_POSSIBLE;
                check.due("up onto " + now + " where " + before + " was", want, yard.moved(0, 3));
            }
        }
        BlockYard wide = Check.yard(Check.floor(8, 8));
        Check.read(wide, Check.floor(3, 4));
        check.due("cell beyond the columns", BlockYard.NO_SUCH_CELL, wide.cell(3, 0));
        check.due("cell beyond the rows", BlockYard.NO_SUCH_CELL, wide.cell(0, 4));
    }

    // ---- promise 5

    private static void noMoves() {
        check.about("An empty text is a sequence without moves.");
        BlockYard yard = Check.yard("A../.../...");
        Check.play(yard, "arad");
        yard.undo();
        check.due("readMoves", 0, yard.readMoves());
        check.due("y", 0, yard.block(0, 1));
        check.due("redo", 2, yard.redo());
        check.due("readMoves without blocks", 0, new BlockYard().readMoves());
    }

    private static void fullTextsOfMoves() {
        check.about("Reads a sequence of moves from the text, which stays, and makes them if it has no fault.");
        BlockYard yard = Check.yard("A../.../...");
        Check.retype(yard, "ar" + "at".repeat(38) + "ad");
        check.due("readMoves of 80 signs", 40, yard.readMoves());
        check.due("picture", ".../.A./...", Check.picture(yard));
        check.due("orientation", 2, yard.block(0, 2));
        check.due("moveAt(0)", 0, yard.moveAt(0));
        check.due("moveAt(39)", 1, yard.moveAt(39));
        check.due("moveAt(40)", NONE, yard.moveAt(40));
        check.due("type behind 80 signs", FULL, yard.type('a'));
        check.due("readMoves again", 40, yard.readMoves());
        check.due("clearText", 80, yard.clearText());
    }

    private static void everyLetterForABlock() {
        check.about("a letter a to e for the block");
        for (int sign = 0; sign < 768; sign++) {
            BlockYard yard = Check.yard("ABCDE/...../.....");
            boolean isBlock = sign >= 'a' && sign <= 'e';
            check.due("readMoves of " + sign + " and d", isBlock ? 1 : -100, Check.play(yard, (char) sign + "d"));
            check.due("moveAt(0)", isBlock ? 10 * (sign - 'a') + 1 : NONE, yard.moveAt(0));
        }
        BlockYard high = Check.yard("ABCDE/...../.....");
        for (char sign : "abcde".toCharArray()) {
            for (int more : new int[] {0x0300, 0x1000, 0x8000, 0xff00}) {
                check.due("a letter and " + more, -100, Check.play(high, (char) (sign + more) + "d"));
            }
        }
    }

    private static void lettersWithoutBlock() {
        check.about("A letter for which there is no block is not allowed");
        for (int there = 0; there < 5; there++) {
            BlockYard yard = Check.yard(renamed(".../.A./...", there));
            for (int block = 0; block < 5; block++) {
                String move = (char) ('a' + block) + "t";
                String known = (char) ('a' + there) + "t";
                check.due(move + " of block " + there, block == there ? 1 : -100, Check.play(yard, move));
                check.due(known + move, block == there ? 2 : -102, Check.play(yard, known + move));
                check.due(known + move.charAt(0), block == there ? -103 : -102,
                        Check.play(yard, known + move.charAt(0)));
            }
        }
        check.due("without blocks", -100, Check.play(new BlockYard(), "at"));
    }

    private static void everyLetterForAKind() {
        check.about("a letter for the kind: r, d, l, u for 0 to 3, t for 4 and s for 5.");
        for (int sign = 0; sign < 768; sign++) {
            BlockYard yard = Check.yard(".../.A./...");
            int kind = "rdluts".indexOf(sign);
            check.due("readMoves of a and " + sign, kind >= 0 ? 1 : -101, Check.play(yard, "a" + (char) sign));
            check.due("moveAt(0)", kind >= 0 ? kind : NONE, yard.moveAt(0));
        }
        BlockYard high = Check.yard(".../.A./...");
        for (char sign : "rdluts".toCharArray()) {
            for (int more : new int[] {0x0300, 0x1000, 0x8000, 0xff00}) {
                check.due("a kind and " + more, -101, Check.play(high, "a" + (char) (sign + more)));
            }
        }
    }

    private static void movesThatEndTooEarly() {
        check.about("its fault is .. its length if it ends too early.");
        for (int length = 1; length < 80; length += 2) {
            BlockYard yard = Check.yard("A../.../...");
            check.due(length + " signs", -100 - length, Check.play(yard, FULL_TEXT.substring(0, length)));
            check.due("orientation", 0, yard.block(0, 2));
            check.due("moveAt(0)", NONE, yard.moveAt(0));
        }
    }

    private static void movesAfterTheOnesBefore() {
        check.about("a letter for a move that is not possible (after the moves before it) is not allowed, either.");
        BlockYard yard = Check.yard("A0B/..w/...");
        check.due("al", -101, Check.play(yard, "al"));
        check.due("arbdarar", -107, Check.play(yard, "arbdarar"));
        check.due("bd", -101, Check.play(yard, "bd"));
        check.due("aralbd", -105, Check.play(yard, "aralbd"));
        check.due("the last one of 40", -179, Check.play(yard, "at".repeat(39) + "al"));
        check.due("arbd", 2, Check.play(yard, "arbd"));
        check.due("aral", 2, Check.play(yard, "aral"));
    }

    private static void faultsOfMovesChangeNothing() {
        check.about("-100 minus the fault if there is one (nothing changes then)");
        BlockYard yard = Check.yard("A../.../..B");
        yard.setWeight(0, 3);
        Check.play(yard, "arad");
        yard.undo();
        for (String text : new String[] {"a", "x", "aldr", "arx", "ar?r", "arararar", "buata"}) {
            int answer = Check.play(yard, text);
            check.due(text + " has a fault", 1, answer <= -100 ? 1 : 0);
            check.due("picture behind " + text, ".A./.../..B", Check.picture(yard));
            check.due("moveAt(1) behind " + text, NONE, yard.moveAt(1));
            check.due("effort behind " + text, 3, yard.effort());
        }
        check.due("redo", 2, yard.redo());
        check.due("effort then", 6, yard.effort());
    }

    private static void the200thMove() {
        check.about("FULL if .. there would be more than 200 moves: 200 are not more.");
        BlockYard yard = Check.yard("A../.../...");
        Check.turn(yard, 160);
        check.due("40 more", 40, Check.play(yard, FULL_TEXT));
        check.due("moveAt(199)", 4, yard.moveAt(199));
        check.due("no more", 0, Check.play(yard, ""));
        BlockYard single = Check.yard("A../.../...");
        Check.turn(single, 199);
        check.due("one more", 1, Check.play(single, "as"));
        check.due("undo", 199, single.undo());
        check.due("undone moves do not count", 1, Check.play(single, "ar"));
        check.due("moveAt(199)", 0, single.moveAt(199));
    }

    private static void the201stMove() {
        check.about("FULL if there is no fault, but there would be more than 200 moves.");
        BlockYard yard = Check.yard("A../.../...");
        Check.turn(yard, 162);
        yard.undo();
        check.due("161 and 40", FULL, Check.play(yard, "ar" + "at".repeat(39)));
        check.due("x", 0, yard.block(0, 0));
        check.due("orientation", 1, yard.block(0, 2));
        check.due("moveAt(161)", NONE, yard.moveAt(161));
        check.due("redo", 162, yard.redo());
        check.due("effort", 162, yard.effort());
        Check.turn(yard, 38);
        check.due("200 and 1", FULL, Check.play(yard, "at"));
        check.due("undo", 199, yard.undo());
        check.due("199 and 2", FULL, Check.play(yard, "atat"));
        check.due("redo", 200, yard.redo());
        yard.save(0);
        yard.restore(0);
        check.due("behind restore", 2, Check.play(yard, "atat"));
    }

    private static void faultsBeforeFull() {
        check.about("FULL if there is no fault");
        BlockYard yard = Check.yard("A../.../...");
        Check.turn(yard, 200);
        check.due("a move that is not possible", -101, Check.play(yard, "al"));
        check.due("no block", -100, Check.play(yard, "bt"));
        check.due("no kind", -103, Check.play(yard, "ata?"));
        check.due("too short", -103, Check.play(yard, "ata"));
        check.due("no fault", FULL, Check.play(yard, "atat"));
    }
}
