/** Promises 17 to 26: pushes, turns, gates, the history and saved arrangements. */
public final class MoveTest {
    private static final Check check = new Check();
    private static final int NOT = BlockYard.NOT_POSSIBLE;

    public static void main(String[] args) {
        pushes();
        pushesOfSeveral();
        strength();
        oneWayFloors();
        turns();
        turnsOfFarCells();
        turnsAndWhatIsInTheWay();
        gates();
        ownGates();
        wrongMoves();
        fullHistory();
        possibleMoves();
        undoAndRedo();
        efforts();
        savedArrangements();
        check.end();
    }

    /** The move in a new yard moves the set and leads to the picture. */
    private static void moves(String level, int block, int kind, int set, String picture) {
        BlockYard yard = Check.yard(level);
        String call = level + " (" + block + ", " + kind + ")";
        check.due("moved in " + call, set, yard.moved(block, kind));
        check.due("picture behind moved in " + call, level, Check.picture(yard));
        check.due("move in " + call, 1, yard.move(block, kind));
        check.due("picture behind " + call, picture, Check.picture(yard));
        check.due("undo of " + call, 0, yard.undo());
        check.due("picture behind undo of " + call, level, Check.picture(yard));
    }

    private static void stays(String level, int block, int kind) {
        BlockYard yard = Check.yard(level);
        String call = level + " (" + block + ", " + kind + ")";
        check.due("moved in " + call, NOT, yard.moved(block, kind));
        check.due("move in " + call, NOT, yard.move(block, kind));
        check.due("picture behind " + call, level, Check.picture(yard));
        check.due("undo behind " + call, BlockYard.NONE, yard.undo());
    }

    private static void pushes() {
        moves(".../.A./...", 0, 0, 1, ".../..A/...");
        moves(".../.A./...", 0, 1, 1, ".../.../.A.");
        moves(".../.A./...", 0, 2, 1, ".../A../...");
        moves(".../.A./...", 0, 3, 1, ".A./.../...");
        stays("..A/.../...", 0, 0);
        stays(".../.../A..", 0, 1);
        stays("A../.../...", 0, 2);
        stays("A../.../...", 0, 3);
        stays("A#./.../...", 0, 0);
        moves("e.E./..../....", 4, 0, 16, ".e.E/..../....");
        stays("e.E#/..../....", 4, 0);
        stays("e#E./..../....", 4, 0);
        moves("aA./.a./...", 0, 1, 1, ".../aA./.a.");
        stays("......./......A/.......", 0, 0);
        moves("......../.......A/........", 0, 2, 1, "......../......A./........");
        stays("......../.......A/........", 0, 0);
        stays(".../.../.../.../.../.../.../.A.", 0, 1);
        stays(".A./.../.../.../.../.../.../...", 0, 3);
        moves(".../.../.../.../.../.../.A./...", 0, 1, 1, ".../.../.../.../.../.../.../.A.");
    }

    private static void pushesOfSeveral() {
        moves("AB./.../...", 0, 0, 3, ".AB/.../...");
        moves(".AB/.../...", 1, 2, 3, "AB./.../...");
        stays("AB#/.../...", 0, 0);
        stays(".AB/.../...", 0, 0);
        moves("ABCDE.../......../........", 0, 0, 31, ".ABCDE../......../........");
        moves("ABCDE.../......../........", 2, 0, 28, "AB.CDE../......../........");
        moves("Aa./Bb./...", 0, 1, 3, ".../Aa./Bb.");
        // the one that is pushed pushes on elsewhere
        moves("AB../.b../.bC./....", 0, 0, 7, ".AB./..b./..bC/....");
        stays("AB../.b../.bC#/....", 0, 0);
        // one that is pushed by a pushed one stands beside the first
        moves("..../b.B./aA../....", 1, 1, 3, "..../..../b.B./aA..");
        // they push one another
        moves("Ab./aB./...", 0, 0, 3, ".Ab/.aB/...");
        moves("aBA./..../....", 1, 0, 3, ".aBA/..../....");
        // between the cells of another block there is room
        moves("A.a./.B../..../....", 1, 3, 2, "ABa./..../..../....");
    }

    private static void strength() {
        BlockYard yard = Check.yard("AB.C/..../....");
        yard.setWeight(0, 2);
        yard.setWeight(1, 3);
        yard.setStrength(4);
        check.due("too heavy", NOT, yard.moved(0, 0));
        check.due("the second alone", 2, yard.moved(1, 0));
        yard.setStrength(5);
        check.due("just not too heavy", 3, yard.moved(0, 0));
        yard.setStrength(1);
        check.due("one alone is too heavy", NOT, yard.moved(0, 1));
        check.due("turns need no strength", 1, yard.moved(0, 4));
        check.due("a light one", 4, yard.moved(2, 1));
        for (int block = 0; block < 3; block++) {
            yard.setWeight(block, 9);
        }
        yard.setStrength(45);
        check.due("27 of 45", 1, yard.move(1, 0));
        check.due("move", NOT, yard.move(1, 0));
    }

    private static void oneWayFloors() {
        moves("A>./.../...", 0, 0, 1, ".A./.../...");
        stays("A<./.../...", 0, 0);
        stays("A^./.../...", 0, 0);
        stays("Av./.../...", 0, 0);
        moves("A../v../...", 0, 1, 1, ".../A../...");
        stays("A../^../...", 0, 1);
        stays("A../>../...", 0, 1);
        moves(".<A/.../...", 0, 2, 1, ".A./.../...");
        stays(".>A/.../...", 0, 2);
        moves("^../A../...", 0, 3, 1, "A../.../...");
        stays("v../A../...", 0, 3);
        stays("AB</.../...", 0, 0);
        moves("AB>/.../...", 0, 0, 3, ".AB/.../...");
        stays("Av./a../...", 0, 0);
        // from a one-way floor a block may go anywhere
        BlockYard yard = Check.yard("A>./.../...");
        yard.move(0, 0);
        check.due("up to the right", 1, yard.moved(0, 0));
        check.due("down", 1, yard.moved(0, 1));
        check.due("left", 1, yard.moved(0, 2));
        // a cell that comes to where another cell of the block was comes to it all the same
        BlockYard tall = Check.yard(".A./.a./.v./...");
        Check.play(tall, "adad");
        check.due("picture", ".../.../.A./.a.", Check.picture(tall));
        check.due("upwards against the one-way floor", NOT, tall.moved(0, 3));
        check.due("sideways", 1, tall.moved(0, 0));
        tall.move(0, 0);
        check.due("back onto it", NOT, tall.moved(0, 2));
    }

    private static void turns() {
        BlockYard one = Check.yard("A#./#../...");
        check.due("a block of one cell", 1, one.move(0, 4));
        check.due("orientation 1", 1, one.block(0, 2));
        one.move(0, 5);
        one.move(0, 5);
        check.due("orientation 3", 3, one.block(0, 2));
        check.due("moved", 1, one.moved(0, 4));
        moves("Aa./.../...", 0, 4, 1, "A../a../...");
        stays("Aa./.../...", 0, 5);
        moves("A../a../...", 0, 5, 1, "Aa./.../...");
        stays("A../a../...", 0, 4);
        moves("..../.Aa./..a./....", 0, 4, 1, "..../.A../aa../....");
        moves("..../.Aa./..a./....", 0, 5, 1, ".aa./.A../..../....");
        moves("aaa/.A./...", 0, 4, 1, "..a/.Aa/..a");
        moves(".a./aAa/.a.", 0, 4, 1, ".a./aAa/.a.");
        moves(".b./bBb/.b.", 1, 5, 2, ".b./bBb/.b.");
        BlockYard round = Check.yard(".a./.A./...");
        String[] pictures = {".../.Aa/...", ".../.A./.a.", ".../aA./...", ".a./.A./..."};
        for (int k = 0; k < 4; k++) {
            round.move(0, 4);
            check.due("turn " + k, pictures[k], Check.picture(round));
            check.due("orientation " + k, (k + 1) % 4, round.block(0, 2));
        }
    }

    private static void turnsOfFarCells() {
        String far = "...../...../..A../....a/.....";
        moves(far, 0, 4, 1, "...../...../..A../...../.a...");
        moves(far, 0, 5, 1, "...a./...../..A../...../.....");
        // clockwise it passes (4, 4), (3, 4), (2, 4), (1, 4)
        stays("...../...../..A../....a/....#", 0, 4);
        stays("...../...../..A../....a/...#.", 0, 4);
        stays("...../...../..A../....a/..#..", 0, 4);
        stays("...../...../..A../....a/.#...", 0, 4);
        moves("#####/#####/##A##/####a/.....", 0, 4, 1, "#####/#####/##A##/####./.a...");
        // counterclockwise (4, 2), (4, 1), (4, 0), (3, 0)
        stays("...../...../..A.#/....a/.....", 0, 5);
        stays("...../....#/..A../....a/.....", 0, 5);
        stays("....#/...../..A../....a/.....", 0, 5);
        stays("...#./...../..A../....a/.....", 0, 5);
        moves("##.../####./##A#./####a/#####", 0, 5, 1, "##.a./####./##A#./####./#####");
        // a corner goes along a whole side
        moves("a../.A./...", 0, 4, 1, "..a/.A./...");
        moves("a../.A./...", 0, 5, 1, ".../.A./a..");
        stays("a#./.A./...", 0, 4);
        stays("a../#A./...", 0, 5);
        // nothing turns out of the yard
        stays(".A./a../...", 0, 4);
        stays("A..a/..../..../....", 0, 5);
        moves("A..a/..../..../....", 0, 4, 1, "A.../..../..../a...");
        stays("A...a/...../...../.....", 0, 4);
        stays(".a.../...../A..../.....", 0, 5);
    }

    private static void turnsAndWhatIsInTheWay() {
        stays("Aa./.#./...", 0, 4);
        stays("Aa./#../...", 0, 4);
        stays("Aa./.>./...", 0, 4);
        stays("Aa./.v./...", 0, 4);
        stays("Aa./<../...", 0, 4);
        stays("Aa./v../...", 0, 4);
        stays("Aa./.B./...", 0, 4);
        stays("Aa./B../...", 0, 4);
        moves("Aa./00./...", 0, 4, 1, "A../a0./...");
        stays("Aa./0w./...", 0, 4);
        moves("AaB/..b/...", 0, 4, 1, "A.B/a.b/...");
        // the pivot's own cell does not matter
        BlockYard yard = Check.yard("Aa>./..../....");
        Check.play(yard, "arar");
        check.due("picture", "..Aa/..../....", Check.picture(yard));
        check.due("turn on a one-way floor", 1, yard.moved(0, 4));
        yard.move(0, 4);
        check.due("turn back", 1, yard.moved(0, 5));
        yard.move(0, 2);
        check.due("picture", ".A>./.a../....", Check.picture(yard));
        check.due("turn onto a one-way floor", NOT, yard.moved(0, 5));
    }

    private static void gates() {
        BlockYard yard = Check.yard("A0B/..w/...");
        check.due("onto a closed gate", NOT, yard.moved(1, 1));
        yard.move(0, 0);
        check.due("open", 1, yard.isOpen(0));
        check.due("onto an open gate", 2, yard.moved(1, 1));
        yard.setThreshold(0, 2);
        check.due("closed by the threshold", NOT, yard.moved(1, 1));
        yard.setWeight(0, 2);
        check.due("opened by the weight", 2, yard.moved(1, 1));
        yard.move(1, 1);
        yard.move(0, 2);
        check.due("closed", 0, yard.isOpen(0));
        check.due("stays on the gate", 1, yard.blockAt(2, 1));
        check.due("turns on the gate", 2, yard.moved(1, 4));
        check.due("goes from the gate", 2, yard.moved(1, 1));
        yard.move(1, 1);
        check.due("cannot go back", NOT, yard.moved(1, 3));
        // it is open before the move, and closed behind it
        BlockYard off = Check.yard("A0ww/..../....");
        off.move(0, 0);
        check.due("from the plate onto the gate", 2, off.move(0, 0));
        check.due("closed then", 0, off.isOpen(0));
        check.due("to the next gate of the group", NOT, off.moved(0, 0));
        check.due("back", 1, off.moved(0, 2));
        // it is closed before the move, and would be open behind it
        stays("Aa./0w./...", 0, 1);
        stays("A.a/B.w/0..", 0, 1);
        // each group has its own plates and gates
        BlockYard groups = Check.yard("AB.C/01.3/wx.z");
        check.due("onto the plate of group 0", 1, groups.move(0, 1));
        check.due("group 0 is open", 2, groups.move(0, 1));
        check.due("group 1 alone", 3, groups.move(1, 1));
        check.due("group 3 alone", 4, groups.move(2, 1));
        check.due("group 3", 5, groups.move(2, 1));
        check.due("group 2 has no plate", 0, groups.isOpen(2));
    }

    private static void ownGates() {
        BlockYard yard = Check.yard("aA0w./...../.....");
        Check.play(yard, "arar");
        check.due("picture", "..aA./...../.....", Check.picture(yard));
        yard.setThreshold(0, 45);
        check.due("closed", 0, yard.isOpen(0));
        check.due("the hind cell comes to the gate of the front one", 3, yard.move(0, 0));
        check.due("and back", 4, yard.move(0, 2));
        check.due("and off", 5, yard.move(0, 2));
        check.due("but not on again", NOT, yard.move(0, 0));
        // in a turn a cell may pass the gate on which another cell of the block stands
        BlockYard own = Check.yard("B..../0..../..Aa./...aw/.....");
        own.move(1, 1);
        own.move(0, 0);
        check.due("picture", "...../B..../...Aa/....a/.....", Check.picture(own));
        own.move(1, 3);
        check.due("closed", 0, own.isOpen(0));
        check.due("the upper cell passes the lower one's gate", 1, own.moved(0, 4));
    }

    private static void wrongMoves() {
        BlockYard yard = Check.yard("A../.../..C");
        for (int block : new int[] {-1, 1, 3, 4, 5, 100, Integer.MIN_VALUE, Integer.MAX_VALUE}) {
            check.due("moved of block " + block, BlockYard.NO_SUCH_BLOCK, yard.moved(block, 0));
            check.due("move of block " + block, BlockYard.NO_SUCH_BLOCK, yard.move(block, 0));
            check.due("move of block " + block, BlockYard.NO_SUCH_BLOCK, yard.move(block, 6));
        }
        for (int kind : new int[] {-1, 6, 7, 100, Integer.MIN_VALUE, Integer.MAX_VALUE}) {
            check.due("moved of kind " + kind, BlockYard.BAD_VALUE, yard.moved(0, kind));
            check.due("move of kind " + kind, BlockYard.BAD_VALUE, yard.move(0, kind));
        }
        check.due("picture", "A../.../..C", Check.picture(yard));
        check.due("undo", BlockYard.NONE, yard.undo());
    }

    private static void fullHistory() {
        BlockYard yard = Check.yard("A../.../...");
        for (int k = 1; k <= 200; k++) {
            check.due("move " + k, k, yard.move(0, k % 2 == 1 ? 0 : 2));
        }
        check.due("one more", BlockYard.FULL, yard.move(0, 0));
        check.due("one that is not possible", NOT, yard.move(0, 2));
        check.due("one of no kind", BlockYard.BAD_VALUE, yard.move(0, 6));
        check.due("moved tells it all the same", 1, yard.moved(0, 0));
        check.due("picture", "A../.../...", Check.picture(yard));
        check.due("moveAt(199)", 2, yard.moveAt(199));
        check.due("moveAt(200)", BlockYard.NONE, yard.moveAt(200));
        check.due("undo", 199, yard.undo());
        check.due("move then", 200, yard.move(0, 1));
        for (int k = 199; k >= 150; k--) {
            check.due("undo to " + k, k, yard.undo());
        }
        for (int k = 151; k <= 200; k++) {
            check.due("redo to " + k, k, yard.redo());
        }
        check.due("redo of none", BlockYard.NONE, yard.redo());
        check.due("picture", ".../.A./...", Check.picture(yard));
    }

    private static void possibleMoves() {
        BlockYard yard = Check.yard("A>B/0.w/..#");
        int[] moves = {0, 1, 4, 5, 14, 15};
        check.due("possibleCount", moves.length, yard.possibleCount());
        for (int k = 0; k < moves.length; k++) {
            check.due("possible(" + k + ")", moves[k], yard.possible(k));
        }
        check.due("possible(6)", BlockYard.NONE, yard.possible(6));
        check.due("possible(max)", BlockYard.NONE, yard.possible(Integer.MAX_VALUE));
        check.due("possible(-1)", BlockYard.BAD_VALUE, yard.possible(-1));
        check.due("possible(min)", BlockYard.BAD_VALUE, yard.possible(Integer.MIN_VALUE));
        check.due("picture", "A>B/0.w/..#", Check.picture(yard));
        yard.move(0, 1);
        check.due("possible(0) behind a move", 0, yard.possible(0));
        check.due("possible(1) behind a move", 1, yard.possible(1));
        check.due("possible(2) behind a move", 3, yard.possible(2));
        yard.undo();
        check.due("possible(2) behind undo", 4, yard.possible(2));
        check.due("possibleCount behind undo", 6, yard.possibleCount());
        BlockYard gap = Check.yard(".../.../..E");
        check.due("possibleCount with block 4 alone", 4, gap.possibleCount());
        check.due("possible(0)", 42, gap.possible(0));
        check.due("possible(3)", 45, gap.possible(3));
        BlockYard stuck = Check.yard("Aa#/.#./...");
        check.due("possibleCount of a stuck block", 0, stuck.possibleCount());
    }

    private static void undoAndRedo() {
        BlockYard yard = Check.yard("AB../..../....");
        yard.move(0, 0);
        yard.move(1, 4);
        yard.move(1, 1);
        check.due("undo", 2, yard.undo());
        check.due("undo", 1, yard.undo());
        check.due("moveAt(1) behind undo", BlockYard.NONE, yard.moveAt(1));
        check.due("undo", 0, yard.undo());
        check.due("undo of none", BlockYard.NONE, yard.undo());
        check.due("picture", "AB../..../....", Check.picture(yard));
        check.due("redo", 1, yard.redo());
        check.due("picture", ".AB./..../....", Check.picture(yard));
        check.due("redo", 2, yard.redo());
        check.due("orientation", 1, yard.block(1, 2));
        check.due("moveAt(0)", 0, yard.moveAt(0));
        check.due("moveAt(1)", 14, yard.moveAt(1));
        check.due("moveAt(2)", BlockYard.NONE, yard.moveAt(2));
        check.due("moveAt(-1)", BlockYard.BAD_VALUE, yard.moveAt(-1));
        check.due("moveAt(max)", BlockYard.NONE, yard.moveAt(Integer.MAX_VALUE));
        check.due("a move that is not possible", NOT, yard.move(0, 3));
        check.due("leaves what was undone", 3, yard.redo());
        yard.undo();
        check.due("a move", 3, yard.move(1, 0));
        check.due("ends what was undone", BlockYard.NONE, yard.redo());
        check.due("moveAt(2)", 10, yard.moveAt(2));
        // what is done again need not be possible now
        BlockYard heavy = Check.yard("AB0w/..../....");
        heavy.setWeight(0, 9);
        Check.play(heavy, "arar");
        heavy.undo();
        heavy.undo();
        heavy.setStrength(3);
        heavy.setThreshold(0, 45);
        check.due("not possible", NOT, heavy.moved(0, 0));
        check.due("redo", 1, heavy.redo());
        check.due("redo", 2, heavy.redo());
        check.due("picture", "..AB/..../....", Check.picture(heavy));
    }

    private static void efforts() {
        BlockYard yard = Check.yard("AB../..../....");
        check.due("at first", 0, yard.effort());
        yard.setWeight(0, 2);
        yard.setWeight(1, 5);
        yard.move(0, 0);
        check.due("both", 7, yard.effort());
        yard.setWeight(0, 9);
        check.due("weights as they were", 7, yard.effort());
        yard.move(0, 4);
        check.due("a turn", 16, yard.effort());
        yard.undo();
        check.due("undone", 7, yard.effort());
        yard.setWeight(0, 1);
        yard.redo();
        check.due("done again", 16, yard.effort());
        yard.move(0, 4);
        check.due("with the new weight", 17, yard.effort());
        yard.undo();
        yard.undo();
        yard.undo();
        check.due("all undone", 0, yard.effort());
    }

    private static void savedArrangements() {
        BlockYard yard = Check.yard("A.../Bb../...C");
        check.due("restore of an empty slot", BlockYard.NONE, yard.restore(0));
        check.due("save(0)", 1, yard.save(0));
        check.due("save(0) again", 0, yard.save(0));
        yard.move(0, 0);
        yard.move(1, 4);
        yard.setWeight(1, 6);
        yard.setGoal(1, 1, 1, 1);
        check.due("save(3)", 1, yard.save(3));
        yard.undo();
        check.due("restore(0)", 1, yard.restore(0));
        check.due("picture", "A.../Bb../...C", Check.picture(yard));
        check.due("no moves made", BlockYard.NONE, yard.undo());
        check.due("no moves undone", BlockYard.NONE, yard.redo());
        check.due("no move at 0", BlockYard.NONE, yard.moveAt(0));
        check.due("no effort", 0, yard.effort());
        check.due("weights stay", 6, yard.block(1, 3));
        check.due("goals stay", 1, yard.block(1, 5));
        check.due("restore(0) again", 0, yard.restore(0));
        check.due("restore(3)", 2, yard.restore(3));
        check.due("picture", ".A../B.../b..C", Check.picture(yard));
        check.due("orientation", 1, yard.block(1, 2));
        check.due("counted from there", 1, yard.move(2, 3));
        check.due("another arrangement into slot 0", 0, yard.save(0));
        check.due("restore(3)", 1, yard.restore(3));
        check.due("restore(0)", 1, yard.restore(0));
        check.due("picture", ".A../B..C/b...", Check.picture(yard));
        yard.move(0, 4);
        check.due("another orientation alone", 1, yard.restore(0));
        yard.move(0, 4);
        yard.undo();
        check.due("restore of the present one", 0, yard.restore(0));
        check.due("nothing to redo then", BlockYard.NONE, yard.redo());
        for (int slot : new int[] {-1, 4, 5, 32, 64, Integer.MIN_VALUE, Integer.MAX_VALUE}) {
            check.due("save(" + slot + ")", BlockYard.BAD_VALUE, yard.save(slot));
            check.due("restore(" + slot + ")", BlockYard.BAD_VALUE, yard.restore(slot));
        }
        check.due("restore(1)", BlockYard.NONE, yard.restore(1));
        check.due("restore(2)", BlockYard.NONE, yard.restore(2));
    }
}
