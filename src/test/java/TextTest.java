/** Promises 2 to 5: the text, reading levels and reading moves. */
public final class TextTest {
    private static final Check check = new Check();

    public static void main(String[] args) {
        typing();
        levelsWithoutFault();
        levelsOfWrongForm();
        levelsWithWrongSigns();
        levelsWithWrongBlocks();
        aFaultChangesNothing();
        aLevelReplacesAll();
        aLevelEndsWhatWasFoundForTheOneBefore();
        aLevelLeavesNothingOfTheGround();
        moves();
        faultsOfMoves();
        aTextEndsWhereItEnds();
        tooManyMoves();
        check.end();
    }

    private static void typing() {
        BlockYard yard = new BlockYard();
        check.due("clearText of a new object", 0, yard.clearText());
        char[] odd = {0, '\n', ' ', 255, 256, 65535};
        for (int k = 0; k < 80; k++) {
            check.due("type of sign " + k, k + 1, yard.type(odd[k % odd.length]));
        }
        check.due("type of an 81st sign", BlockYard.FULL, yard.type('a'));
        check.due("type of an 82nd sign", BlockYard.FULL, yard.type('a'));
        check.due("clearText", 80, yard.clearText());
        check.due("clearText again", 0, yard.clearText());
        check.due("type behind clearText", 1, yard.type('x'));
    }

    private static void level(String text, int want) {
        check.due("readLevel of " + text, want, Check.levelAnswer(text));
    }

    private static void levelsWithoutFault() {
        level(".../.../...", 0);
        level("......../......../......../......../......../......../......../........", 0);
        level("A......./......../...#..../......../......../......../......../.......E", 2);
        level(".../.../.../.../.../.../.../...", 0);
        level("......../......../........", 0);
        level("A.B/C.D/..E", 5);
        level("aaa/aA./...", 1);
        level("a.a/.../A.a", 1);
        level("eEe/ddD/AB.", 4);
        BlockYard yard = Check.yard(".#>v/<^01/23wx/yzA.");
        int[] kinds = {0, 1, 2, 3, 4, 5, 6, 7, 8, 9, 10, 11, 12, 13, 0, 0};
        for (int k = 0; k < kinds.length; k++) {
            check.due("cell of sign " + k, kinds[k], yard.cell(k % 4, k / 4));
        }
        BlockYard wide = Check.yard("...../.#.../...../....E");
        check.due("columns", 5, wide.size(0));
        check.due("rows", 4, wide.size(1));
        check.due("x of block 4", 4, wide.block(4, 0));
        check.due("y of block 4", 3, wide.block(4, 1));
        check.due("picture", "...../.#.../...../....E", Check.picture(wide));
    }

    private static void levelsOfWrongForm() {
        level("", -100);
        level(".", -101);
        level("..", -102);
        level("...", -103);
        level("/", -100);
        level("./", -101);
        level("../.../...", -102);
        level(".........", -108);
        level("........./........./.........", -108);
        level("........", -108);
        level(".../", -104);
        level(".../...", -107);
        level(".../.../", -108);
        level(".../../...", -106);
        level(".../..../...", -107);
        level(".../...//...", -108);
        level("..../.../....", -108);
        level("...//...", -104);
        level(".../.../..", -110);
        level(".../.../.../", -112);
        level(".../.../....", -111);
        level(".../.../.../..", -114);
        level(".../.../.../.../.../.../.../.../", -131);
        level(".../.../.../.../.../.../.../....", -131);
        level("......../......../......../......../......../......../......../......../", -171);
        level("......../......../......../......../......../......../......../.........", -171);
    }

    private static void levelsWithWrongSigns() {
        for (char sign : "fF4-V oOWXYZ\\|~9".toCharArray()) {
            level(".." + sign + "/.../...", -102);
        }
        for (int sign : new int[] {0, 9, 127, 128, 255, 256 + 'a', 256 + '.', 65535}) {
            level(".../." + (char) sign + "./...", -105);
        }
        level("?../..?/...", -100);
        level(".../.../...?", -111);
    }

    private static void levelsWithWrongBlocks() {
        level("AA./.../...", -101);
        level("A../..A/...", -106);
        level("aAa/aA./...", -105);
        level("aaa/aA./a..", -108);
        level("aaa/aA./.A.", -109);
        level("aaa/aa./A..", -108);
        level("aaa/aa./...", -100);
        level("b../.a./...", -100);
        level(".b./a../...", -101);
        level(".../.b./..B/c..", -112);
        level("aA./.c./.d.", -105);
        level("cC./.b./a..", -105);
        level("a../..?/...", -106);
        level("a../...", -107);
        level("a../.../...A", -111);
    }

    private static void aFaultChangesNothing() {
        BlockYard yard = Check.yard("Aa./.../..B");
        yard.setGoal(0, 1, 1, 4);
        yard.setWeight(1, 7);
        yard.save(2);
        yard.move(0, 1);
        yard.move(1, 3);
        yard.undo();
        Check.retype(yard, "C..../...../..");
        check.due("readLevel", -114, yard.readLevel());
        check.due("the text stays", 14, yard.clearText());
        check.due("picture", ".../Aa./..B", Check.picture(yard));
        check.due("goal", 1, yard.block(0, 5));
        check.due("weight", 7, yard.block(1, 3));
        check.due("moveAt(0)", 1, yard.moveAt(0));
        check.due("redo", 2, yard.redo());
        check.due("restore", 2, yard.restore(2));
    }

    private static void aLevelReplacesAll() {
        BlockYard yard = Check.yard("A../..#/0.B");
        yard.setGoal(0, 1, 1, 2);
        yard.setGoal(1, 1, 1, 2);
        yard.setWeight(0, 9);
        yard.setStrength(11);
        yard.setThreshold(3, 12);
        yard.move(0, 4);
        yard.move(0, 0);
        yard.move(0, 1);
        yard.undo();
        yard.save(0);
        yard.save(3);
        Check.retype(yard, "..../A.w./....");
        check.due("readLevel", 1, yard.readLevel());
        check.due("readLevel again", 1, yard.readLevel());
        check.due("the text stays", 14, yard.clearText());
        check.due("picture", "..../A.w./....", Check.picture(yard));
        check.due("number of blocks", 1, yard.size(2));
        check.due("block 1", BlockYard.NO_SUCH_BLOCK, yard.block(1, 0));
        check.due("orientation", 0, yard.block(0, 2));
        check.due("weight", 1, yard.block(0, 3));
        check.due("goal", BlockYard.NONE, yard.block(0, 5));
        check.due("dead placements", 0, yard.deadCount(0));
        check.due("moveAt", BlockYard.NONE, yard.moveAt(0));
        check.due("effort", 0, yard.effort());
        check.due("undo", BlockYard.NONE, yard.undo());
        check.due("redo", BlockYard.NONE, yard.redo());
        check.due("restore(0)", BlockYard.NONE, yard.restore(0));
        check.due("restore(3)", BlockYard.NONE, yard.restore(3));
        check.due("save(0)", 1, yard.save(0));
        check.due("strength", 11, yard.size(3));
        check.due("threshold", 12, yard.setThreshold(3, 1));
    }

    private static void aLevelEndsWhatWasFoundForTheOneBefore() {
        BlockYard yard = Check.yard("A../.../...");
        yard.setGoal(0, 2, 0, 4);
        check.due("solve", 2, yard.solve());
        check.due("solution(0)", 0, yard.solution(0));
        Check.read(yard, "A#./.../...");
        check.due("solve without a goal", 0, yard.solve());
        check.due("solution without a goal", BlockYard.NONE, yard.solution(0));
        yard.setGoal(0, 2, 0, 4);
        check.due("solve around the wall", 4, yard.solve());
        check.due("solution around the wall", 1, yard.solution(0));
    }

    private static void aLevelLeavesNothingOfTheGround() {
        String bare = "Aa../..../..../....";
        for (char sign : "#>v<^0123wxyz".toCharArray()) {
            BlockYard yard = Check.yard("...." + "/....".replace('.', sign).repeat(3));
            check.due("readLevel", 1, Check.read(yard, bare));
            check.due("picture behind " + sign, bare, Check.picture(yard));
            check.due("moves behind " + sign, 4, Check.play(yard, "atadaras"));
            for (int group = 0; group < 4; group++) {
                check.due("load behind " + sign, 0, yard.load(group));
            }
            yard.setGoal(0, 1, 2, 2);
            check.due("dead placements behind " + sign, 0, yard.deadCount(0));
        }
    }

    private static void moves() {
        BlockYard yard = Check.yard("..../.A../..../...E");
        check.due("no moves", 0, yard.readMoves());
        check.due("all kinds", 7, Check.play(yard, "aradalauataseu"));
        check.due("picture", "..../.A../...E/....", Check.picture(yard));
        int[] made = {0, 1, 2, 3, 4, 5, 43};
        for (int k = 0; k < made.length; k++) {
            check.due("moveAt(" + k + ")", made[k], yard.moveAt(k));
        }
        check.due("moveAt(7)", BlockYard.NONE, yard.moveAt(7));
        check.due("effort", 7, yard.effort());
        yard.undo();
        check.due("no moves again", 0, yard.readMoves());
        check.due("no moves leave what was undone", 7, yard.redo());
        yard.undo();
        check.due("one move", 1, Check.play(yard, "el"));
        check.due("a move ends what was undone", BlockYard.NONE, yard.redo());
        check.due("the last move", 42, yard.moveAt(6));
        Check.retype(yard, "atat");
        check.due("two moves", 2, yard.readMoves());
        check.due("the text stays: two more", 2, yard.readMoves());
        check.due("turned", 0, yard.block(0, 2));
        check.due("undo", 10, yard.undo());
        check.due("turned back", 3, yard.block(0, 2));
    }

    private static void fault(String text, int want) {
        BlockYard yard = Check.yard("AB../...c/...C");
        yard.move(2, 2);
        yard.move(2, 0);
        yard.undo();
        check.due("readMoves of " + text, want, Check.play(yard, text));
        check.due("picture behind " + text, "AB../..c./..C.", Check.picture(yard));
        check.due("moves behind " + text, 2, yard.redo());
    }

    private static void faultsOfMoves() {
        fault("d", -100);
        fault("dr", -100);
        fault("fr", -100);
        fault("Ar", -100);
        fault("?", -100);
        fault("/", -100);
        fault("`r", -100);
        fault("\u0161r", -100);
        fault("a", -101);
        fault("aR", -101);
        fault("aa", -101);
        fault("a?", -101);
        fault("a\u0172", -101);
        fault("al", -101);
        fault("aru", -102);
        fault("ara", -103);
        fault("ardr", -102);
        fault("ararar", -105);
        fault("arararad", -105);
        fault("araral?", -106);
        fault("bdcrbr?r", -106);
        fault("at\u0000t", -102);
    }

    private static void aTextEndsWhereItEnds() {
        BlockYard yard = Check.yard("A../.../...");
        Check.retype(yard, "arar");
        Check.retype(yard, "ara");
        check.due("signs from before", -103, yard.readMoves());
        Check.retype(yard, ".../.../...");
        Check.retype(yard, ".../...");
        check.due("signs from before", -107, yard.readLevel());
        Check.retype(yard, "ar".repeat(40));
        yard.clearText();
        check.due("no signs", 0, yard.readMoves());
        Check.retype(yard, "at".repeat(40));
        check.due("a full text", 40, yard.readMoves());
    }

    private static void tooManyMoves() {
        BlockYard yard = Check.yard("A../.../...");
        String ten = "atatatatatatatatatat";
        Check.turn(yard, 180);
        check.due("ten moves", 10, Check.play(yard, ten));
        yard.move(0, 0);
        yard.undo();
        check.due("eleven moves", BlockYard.FULL, Check.play(yard, ten + "at"));
        check.due("nothing changed", 191, yard.redo());
        yard.undo();
        check.due("a fault comes first", -122, Check.play(yard, ten + "at?"));
        check.due("ten moves", 10, Check.play(yard, ten));
        check.due("no moves", 0, Check.play(yard, ""));
        check.due("one move", BlockYard.FULL, Check.play(yard, "at"));
        check.due("one wrong move", -101, Check.play(yard, "al"));
        check.due("the last one", 4, yard.moveAt(199));
        check.due("orientation", 0, yard.block(0, 2));
        check.due("effort", 200, yard.effort());
        check.due("undo", 199, yard.undo());
        check.due("one move then", 1, Check.play(yard, "as"));
    }
}
