/** The boundary cases of promises 17 to 26: moves, the history of moves and saved arrangements. */
public final class MoveBoundsTest {
    private static final Check check = new Check();
    private static final int NO_SUCH_BLOCK = BlockYard.NO_SUCH_BLOCK;
    private static final int BAD_VALUE = BlockYard.BAD_VALUE;
    private static final int NOT = BlockYard.NOT_POSSIBLE;
    private static final int FULL = BlockYard.FULL;
    private static final int NONE = BlockYard.NONE;
    private static final String APART = "A......./......B./...C..../......D./.E....../........";

    public static void main(String[] args) {
        setsOfBlocks();
        movedMovesNothing();
        blocksThatDoNotExist();
        wrongKinds();
        theOrderOfTheErrors();
        movesAreCounted();
        the200thMove();
        the201stMove();
        errorsBeforeFull();
        countedFromALevel();
        countedFromRestore();
        aMoveEndsWhatWasUndone();
        noPossibleMove();
        allMovesArePossible();
        theOrderOfThePossibleMoves();
        thePlaceOfAPossibleMove();
        undoOfNone();
        undoToTheBeginning();
        undoOf200();
        redoOfNone();
        redoInTheirOrder();
        redoOfWhatIsNotPossible();
        redoOfEfforts();
        placesOfMoves();
        undoneMovesHaveNoPlace();
        effortOfNone();
        theGreatestEffort();
        weightsAsTheyWere();
        effortWithoutWhatWasUndone();
        slots();
        wrongSlots();
        savedAgain();
        emptySlots();
        blocksOfAnotherPlacement();
        noMovesBehindRestore();
        placementsAlone();
        the512thCall();
        check.end();
    }

    // ---- promise 17

    private static void setsOfBlocks() {
        check.about("Returns the set of the blocks (bit k for block k)");
        BlockYard apart = Check.yard(APART);
        for (int block = 0; block < 5; block++) {
            int number = block;
            check.inside("kind", 4, 5, 1 << block, kind -> apart.moved(number, kind));
            check.due("a push down", 1 << block, apart.moved(block, 1));
        }
        BlockYard row = Check.yard("ABCDE.../......../........");
        int[] sets = {31, 30, 28, 24, 16};
        for (int block = 0; block < 5; block++) {
            check.due("push of a row from " + block, sets[block], row.moved(block, 0));
        }
    }

    private static void movedMovesNothing() {
        check.about("Tells which blocks a move would move.");
        BlockYard yard = Check.yard("AB./.../...");
        check.due("moved", 3, yard.moved(0, 0));
        check.due("moved again", 3, yard.moved(0, 0));
        check.due("picture", "AB./.../...", Check.picture(yard));
        check.due("undo", NONE, yard.undo());
        check.due("effort", 0, yard.effort());
    }

    private static void blocksThatDoNotExist() {
        check.about("moved and move: NO_SUCH_BLOCK; BAD_VALUE; NOT_POSSIBLE");
        BlockYard yard = Check.yard("..../.C../..../....");
        for (int kind : new int[] {0, 4, -1, 6}) {
            check.outside("moved", 0, 4, NO_SUCH_BLOCK, block -> yard.moved(block, kind));
            check.outside("move", 0, 4, NO_SUCH_BLOCK, block -> yard.move(block, kind));
            for (int block : new int[] {0, 1, 3, 4}) {
                check.due("moved(" + block + ", " + kind + ")", NO_SUCH_BLOCK, yard.moved(block, kind));
                check.due("move(" + block + ", " + kind + ")", NO_SUCH_BLOCK, yard.move(block, kind));
            }
        }
        check.due("undo", NONE, yard.undo());
    }

    private static void wrongKinds() {
        check.about("kind: 0 to 5");
        BlockYard yard = Check.yard(".../.A./...");
        check.inside("moved", 0, 5, 1, kind -> yard.moved(0, kind));
        check.outside("moved", 0, 5, BAD_VALUE, kind -> yard.moved(0, kind));
        check.outside("move", 0, 5, BAD_VALUE, kind -> yard.move(0, kind));
        check.due("undo", NONE, yard.undo());
        check.due("picture", ".../.A./...", Check.picture(yard));
    }

    private static void theOrderOfTheErrors() {
        check.about("BAD_VALUE; NOT_POSSIBLE: where no move is possible a wrong kind is a wrong kind");
        BlockYard stuck = Check.yard("Aa#/###/...");
        check.inside("moved", 0, 5, NOT, kind -> stuck.moved(0, kind));
        check.inside("move", 0, 5, NOT, kind -> stuck.move(0, kind));
        check.outside("moved", 0, 5, BAD_VALUE, kind -> stuck.moved(0, kind));
        check.outside("move", 0, 5, BAD_VALUE, kind -> stuck.move(0, kind));
    }

    // ---- promise 18

    private static void movesAreCounted() {
        check.about("Returns how many moves have been made (and not undone)");
        BlockYard yard = Check.yard("A../.../...");
        check.due("the first", 1, yard.move(0, 0));
        check.due("the second", 2, yard.move(0, 1));
        check.due("the third", 3, yard.move(0, 1));
        check.due("one that is not possible", NOT, yard.move(0, 1));
        check.due("the fourth", 4, yard.move(0, 5));
        yard.undo();
        yard.undo();
        check.due("behind two that were undone", 3, yard.move(0, 4));
    }

    private static void the200thMove() {
        check.about("FULL if there are 200: not before");
        BlockYard yard = Check.yard("A../.../...");
        for (int k = 1; k <= 200; k++) {
            check.due("move " + k, k, yard.move(0, k % 2 == 1 ? 0 : 2));
        }
        check.due("x", 0, yard.block(0, 0));
        check.due("moveAt(199)", 2, yard.moveAt(199));
    }

    private static void the201stMove() {
        check.about("FULL if there are 200.");
        BlockYard yard = Check.yard("A../.../...");
        Check.turn(yard, 200);
        check.inside("move", 4, 5, FULL, kind -> yard.move(0, kind));
        check.inside("move", 0, 1, FULL, kind -> yard.move(0, kind));
        check.due("picture", "A../.../...", Check.picture(yard));
        check.due("orientation", 0, yard.block(0, 2));
        check.due("effort", 200, yard.effort());
        check.due("moveAt(199)", 4, yard.moveAt(199));
        check.due("moveAt(200)", NONE, yard.moveAt(200));
        check.due("moved", 1, yard.moved(0, 0));
        yard.undo();
        check.due("behind undo", 200, yard.move(0, 0));
        check.due("x", 1, yard.block(0, 0));
        check.due("and again", FULL, yard.move(0, 0));
    }

    private static void errorsBeforeFull() {
        check.about("NO_SUCH_BLOCK; BAD_VALUE; NOT_POSSIBLE; FULL if there are 200.");
        BlockYard yard = Check.yard("A../.../...");
        Check.turn(yard, 200);
        check.due("no block", NO_SUCH_BLOCK, yard.move(1, 0));
        check.due("no kind", BAD_VALUE, yard.move(0, 6));
        check.due("not possible", NOT, yard.move(0, 2));
        check.due("possible", FULL, yard.move(0, 0));
    }

    private static void countedFromALevel() {
        check.about("since the level was read");
        BlockYard yard = Check.yard("A../.../...");
        Check.turn(yard, 200);
        Check.read(yard, "A../.../...");
        check.due("move", 1, yard.move(0, 0));
        check.due("undo", 0, yard.undo());
        check.due("undo", NONE, yard.undo());
    }

    private static void countedFromRestore() {
        check.about("or the last restore()");
        BlockYard yard = Check.yard("A../.../...");
        yard.save(0);
        Check.turn(yard, 200);
        yard.restore(0);
        check.due("move", 1, yard.move(0, 0));
        yard.restore(0);
        check.due("move behind another restore", 1, yard.move(0, 1));
        check.due("restore of an empty slot", NONE, yard.restore(1));
        check.due("move behind a restore of nothing", 2, yard.move(0, 1));
    }

    private static void aMoveEndsWhatWasUndone() {
        check.about("Moves that have been undone cannot be redone any more then.");
        BlockYard yard = Check.yard("A../.../...");
        Check.play(yard, "aradar");
        yard.undo();
        yard.undo();
        check.due("move", 2, yard.move(0, 4));
        check.due("redo", NONE, yard.redo());
        check.due("undo", 1, yard.undo());
        check.due("redo of the new move", 2, yard.redo());
        check.due("redo of the old one", NONE, yard.redo());
        check.due("moveAt(1)", 4, yard.moveAt(1));
        yard.undo();
        check.due("a move that is not possible", NOT, yard.move(0, 3));
        check.due("leaves what was undone", 2, yard.redo());
        yard.undo();
        check.due("the same move once more", 2, yard.move(0, 4));
        check.due("redo behind it", NONE, yard.redo());
    }

    // ---- promises 19 and 20

    private static void noPossibleMove() {
        check.about("Returns how many moves are possible: none");
        check.due("without blocks", 0, new BlockYard().possibleCount());
        BlockYard stuck = Check.yard("Aa#/###/...");
        check.due("a stuck block", 0, stuck.possibleCount());
        check.due("possible(0)", NONE, stuck.possible(0));
        check.due("possible(-1)", BAD_VALUE, stuck.possible(-1));
        BlockYard full = Check.yard("aaAaa/bbBbb/ccCcc/ddDdd/eeEee");
        check.due("a full yard", 0, full.possibleCount());
    }

    private static void allMovesArePossible() {
        check.about("Returns how many moves are possible: five blocks and six kinds");
        BlockYard free = Check.yard("......../.A.B.C../......../.D...E../........");
        check.due("30", 30, free.possibleCount());
        check.due("possible(0)", 0, free.possible(0));
        check.due("possible(29)", 45, free.possible(29));
        check.due("possible(30)", NONE, free.possible(30));
    }

    private static void theOrderOfThePossibleMoves() {
        check.about("its place, from 0, in the order of the blocks and, for each block, of the kinds");
        BlockYard free = Check.yard("......../.E.D.C../......../.B...A../........");
        for (int k = 0; k < 30; k++) {
            check.due("possible(" + k + ")", 10 * (k / 6) + k % 6, free.possible(k));
        }
        BlockYard gaps = Check.yard("A../.../..D");
        int[] want = {0, 1, 4, 5, 32, 33, 34, 35, NONE};
        for (int k = 0; k < want.length; k++) {
            check.due("possible(" + k + ") at the edges", want[k], gaps.possible(k));
        }
    }

    private static void thePlaceOfAPossibleMove() {
        check.about("BAD_VALUE if k is negative; NONE if there are not so many.");
        BlockYard yard = Check.yard("A../.../...");
        check.due("possible(3)", 5, yard.possible(3));
        for (int k : Check.outside(0, 3)) {
            check.due("possible(" + k + ")", k < 0 ? BAD_VALUE : NONE, yard.possible(k));
            check.due("possible(" + k + ") without blocks", k < 0 ? BAD_VALUE : NONE, new BlockYard().possible(k));
        }
        Check.turn(yard, 200);
        check.due("with 200 moves", 4, yard.possibleCount());
        check.due("with 200 moves", 0, yard.possible(0));
    }

    // ---- promises 21 and 22

    private static void undoOfNone() {
        check.about("undo: NONE if there is none.");
        check.due("a new object", NONE, new BlockYard().undo());
        BlockYard yard = Check.yard("A../.../...");
        check.due("a new level", NONE, yard.undo());
        yard.move(0, 0);
        yard.undo();
        check.due("all undone", NONE, yard.undo());
        check.due("redo behind it", 1, yard.redo());
        yard.save(0);
        yard.restore(0);
        check.due("behind restore", NONE, yard.undo());
        check.due("x", 1, yard.block(0, 0));
    }

    private static void undoToTheBeginning() {
        check.about("Undoes the last move: the arrangement becomes what it was before it. Returns how many moves are left");
        BlockYard yard = Check.yard("AB../..../....");
        String[] pictures = {"AB../..../....", ".AB./..../....", ".AB./..../....", ".A../..B./...."};
        Check.play(yard, "aratbd");
        for (int left = 2; left >= 0; left--) {
            check.due("undo", left, yard.undo());
            check.due("picture", pictures[left], Check.picture(yard));
            check.due("orientation", left == 2 ? 1 : 0, yard.block(0, 2));
        }
    }

    private static void undoOf200() {
        check.about("Returns how many moves are left: all 200 of them");
        BlockYard yard = Check.yard("A../.../...");
        yard.move(0, 0);
        Check.turn(yard, 199);
        for (int left = 199; left >= 0; left--) {
            check.due("undo", left, yard.undo());
        }
        check.due("undo of none", NONE, yard.undo());
        check.due("x", 0, yard.block(0, 0));
        check.due("orientation", 0, yard.block(0, 2));
        for (int made = 1; made <= 200; made++) {
            check.due("redo", made, yard.redo());
        }
        check.due("redo of none", NONE, yard.redo());
        check.due("x", 1, yard.block(0, 0));
        check.due("orientation", 3, yard.block(0, 2));
    }

    private static void redoOfNone() {
        check.about("redo: NONE if there is none.");
        check.due("a new object", NONE, new BlockYard().redo());
        BlockYard yard = Check.yard("A../.../...");
        check.due("a new level", NONE, yard.redo());
        yard.move(0, 0);
        check.due("behind a move", NONE, yard.redo());
        yard.undo();
        yard.redo();
        check.due("all done again", NONE, yard.redo());
        check.due("x", 1, yard.block(0, 0));
        check.due("undo", 0, yard.undo());
        Check.read(yard, "A../.../...");
        check.due("behind readLevel", NONE, yard.redo());
    }

    private static void redoInTheirOrder() {
        check.about("Makes the move again that was undone last. Returns how many moves there are then");
        BlockYard yard = Check.yard("A.../..../....");
        Check.play(yard, "aradatar");
        for (int k = 0; k < 4; k++) {
            yard.undo();
        }
        int[] xs = {1, 1, 1, 2};
        int[] ys = {0, 1, 1, 1};
        int[] orientations = {0, 0, 1, 1};
        for (int k = 0; k < 4; k++) {
            check.due("redo", k + 1, yard.redo());
            check.due("x", xs[k], yard.block(0, 0));
            check.due("y", ys[k], yard.block(0, 1));
            check.due("orientation", orientations[k], yard.block(0, 2));
        }
        yard.undo();
        yard.undo();
        check.due("one of two", 3, yard.redo());
        check.due("undone again", 2, yard.undo());
        check.due("and again", 3, yard.redo());
        check.due("the other one", 4, yard.redo());
    }

    private static void redoOfWhatIsNotPossible() {
        check.about("the arrangement becomes what it was behind it (also if the move would not be possible now)");
        BlockYard heavy = Check.yard("A../.../...");
        heavy.move(0, 0);
        heavy.undo();
        heavy.setWeight(0, 9);
        heavy.setStrength(8);
        check.due("too heavy", NOT, heavy.moved(0, 0));
        check.due("redo", 1, heavy.redo());
        check.due("x", 1, heavy.block(0, 0));
        BlockYard gate = Check.yard("A0w/.../...");
        Check.play(gate, "arar");
        gate.undo();
        gate.setThreshold(0, 2);
        check.due("closed", NOT, gate.moved(0, 0));
        check.due("redo", 2, gate.redo());
        check.due("x", 2, gate.block(0, 0));
    }

    private static void redoOfEfforts() {
        check.about("its effort is what it was");
        BlockYard yard = Check.yard("A../.../...");
        yard.setWeight(0, 9);
        yard.move(0, 0);
        yard.setWeight(0, 4);
        yard.move(0, 0);
        yard.undo();
        yard.undo();
        yard.setWeight(0, 1);
        yard.redo();
        check.due("effort of one", 9, yard.effort());
        yard.redo();
        check.due("effort of both", 13, yard.effort());
    }

    // ---- promises 23 and 24

    private static void placesOfMoves() {
        check.about("moveAt: BAD_VALUE if k is negative; NONE if there are not so many.");
        BlockYard yard = Check.yard("A../.E./...");
        check.due("of none", NONE, yard.moveAt(0));
        check.due("of none", BAD_VALUE, yard.moveAt(-1));
        Check.play(yard, "ateseu");
        int[] moves = {4, 45, 43};
        for (int k = 0; k < 3; k++) {
            check.due("moveAt(" + k + ")", moves[k], yard.moveAt(k));
        }
        for (int k : Check.outside(0, 2)) {
            check.due("moveAt(" + k + ")", k < 0 ? BAD_VALUE : NONE, yard.moveAt(k));
        }
        BlockYard full = Check.yard("A../.../...");
        full.move(0, 0);
        Check.turn(full, 198);
        full.move(0, 1);
        check.due("moveAt(0)", 0, full.moveAt(0));
        check.due("moveAt(199)", 1, full.moveAt(199));
        check.due("moveAt(200)", NONE, full.moveAt(200));
    }

    private static void undoneMovesHaveNoPlace() {
        check.about("Returns a move that has been made.");
        BlockYard yard = Check.yard("A../.../...");
        Check.play(yard, "arad");
        yard.undo();
        check.due("one that is left", 0, yard.moveAt(0));
        check.due("one that is undone", NONE, yard.moveAt(1));
        yard.redo();
        check.due("one that is done again", 1, yard.moveAt(1));
        yard.undo();
        yard.move(0, 5);
        check.due("another one instead", 5, yard.moveAt(1));
        yard.save(0);
        yard.restore(0);
        check.due("behind restore", NONE, yard.moveAt(0));
    }

    private static void effortOfNone() {
        check.about("the effort of all moves that have been made: none");
        check.due("a new object", 0, new BlockYard().effort());
        BlockYard yard = Check.yard("A../.../...");
        check.due("a new level", 0, yard.effort());
        yard.move(0, 0);
        yard.undo();
        check.due("all undone", 0, yard.effort());
        yard.redo();
        yard.save(0);
        yard.restore(0);
        check.due("behind restore", 0, yard.effort());
        yard.move(0, 1);
        check.due("counted from there", 1, yard.effort());
    }

    private static void theGreatestEffort() {
        check.about("the sum, over all of them, of the weights .. of the blocks that were moved");
        BlockYard yard = Check.yard("ABCDE.../......../........");
        for (int block = 0; block < 5; block++) {
            yard.setWeight(block, 9);
        }
        for (int k = 1; k <= 200; k++) {
            yard.move(k % 2 == 1 ? 0 : 4, k % 2 == 1 ? 0 : 2);
        }
        check.due("200 moves of 45", 9000, yard.effort());
        check.due("one more", FULL, yard.move(0, 0));
        check.due("does not count", 9000, yard.effort());
        yard.undo();
        check.due("undone", 8955, yard.effort());
    }

    private static void weightsAsTheyWere() {
        check.about("the weights (as they were then)");
        BlockYard yard = Check.yard("AB../..../....");
        yard.setWeight(1, 9);
        yard.move(0, 0);
        yard.setWeight(1, 1);
        check.due("effort", 10, yard.effort());
        yard.move(0, 0);
        check.due("effort", 12, yard.effort());
        yard.setWeight(0, 9);
        Check.play(yard, "adat");
        check.due("effort by readMoves", 30, yard.effort());
    }

    private static void effortWithoutWhatWasUndone() {
        check.about("the effort of all moves that have been made");
        BlockYard yard = Check.yard("A.../..../....");
        yard.setWeight(0, 9);
        Check.play(yard, "ararad");
        yard.setWeight(0, 2);
        yard.undo();
        yard.undo();
        check.due("one of three", 9, yard.effort());
        yard.move(0, 1);
        check.due("another one instead of two", 11, yard.effort());
        yard.move(0, 1);
        check.due("and one more", 13, yard.effort());
        yard.undo();
        yard.undo();
        check.due("undone", 9, yard.effort());
        check.due("by readMoves", 1, Check.play(yard, "at"));
        check.due("effort then", 11, yard.effort());
    }

    // ---- promises 25 and 26

    private static void slots() {
        check.about("slot: 0 to 3");
        BlockYard yard = Check.yard("A.../..../....");
        for (int slot = 0; slot < 4; slot++) {
            check.due("save(" + slot + ")", 1, yard.save(slot));
            yard.move(0, slot < 3 ? 0 : 1);
        }
        for (int slot = 3; slot >= 0; slot--) {
            check.due("restore(" + slot + ")", 1, yard.restore(slot));
            check.due("x", slot, yard.block(0, 0));
            check.due("y", 0, yard.block(0, 1));
        }
    }

    private static void wrongSlots() {
        check.about("save and restore: BAD_VALUE");
        BlockYard yard = Check.yard("A.../..../....");
        check.outside("restore", 0, 3, BAD_VALUE, yard::restore);
        check.outside("save", 0, 3, BAD_VALUE, yard::save);
        check.inside("restore", 0, 3, NONE, yard::restore);
        check.inside("save", 0, 3, 1, yard::save);
        yard.move(0, 0);
        check.outside("restore", 0, 3, BAD_VALUE, yard::restore);
        check.outside("save", 0, 3, BAD_VALUE, yard::save);
        check.due("undo", 0, yard.undo());
        check.inside("restore", 0, 3, 0, yard::restore);
    }

    private static void savedAgain() {
        check.about("Returns 1 if the slot was empty, 0 if it had another or the same arrangement");
        BlockYard yard = Check.yard("A../.../...");
        check.due("an empty slot", 1, yard.save(2));
        check.due("the same arrangement", 0, yard.save(2));
        yard.move(0, 0);
        check.due("another one", 0, yard.save(2));
        check.due("another slot", 1, yard.save(3));
        yard.move(0, 0);
        check.due("restore of the last one", 1, yard.restore(2));
        check.due("x", 1, yard.block(0, 0));
        check.due("saved behind restore", 0, yard.save(2));
        check.due("a yard without blocks", 1, new BlockYard().save(0));
    }

    private static void emptySlots() {
        check.about("NONE if the slot is empty.");
        BlockYard yard = Check.yard("A../.../...");
        yard.save(1);
        Check.play(yard, "arar");
        yard.undo();
        for (int slot : new int[] {0, 2, 3}) {
            check.due("restore(" + slot + ")", NONE, yard.restore(slot));
        }
        check.due("the moves are still there", 2, yard.redo());
        check.due("x", 2, yard.block(0, 0));
        Check.read(yard, "A../.../...");
        check.inside("restore behind readLevel", 0, 3, NONE, yard::restore);
    }

    private static void blocksOfAnotherPlacement() {
        check.about("Returns how many blocks have another placement than before");
        BlockYard yard = Check.yard("......../.A.B.C../......../.D...E../........");
        yard.save(0);
        check.due("none", 0, yard.restore(0));
        String moves = "arbdclduer";
        for (int count = 1; count <= 5; count++) {
            Check.play(yard, moves.substring(0, 2 * count));
            check.due("so many", count, yard.restore(0));
            Check.play(yard, "atbtctdtet".substring(0, 2 * count));
            check.due("so many that have turned", count, yard.restore(0));
        }
        Check.play(yard, "atbsarbrctctctct");
        check.due("both turned and pushed, or back again", 2, yard.restore(0));
    }

    private static void noMovesBehindRestore() {
        check.about("There are no moves then, neither made nor undone.");
        BlockYard yard = Check.yard("A../.../...");
        Check.play(yard, "arad");
        yard.undo();
        yard.save(0);
        check.due("save leaves what was undone", 2, yard.redo());
        yard.undo();
        check.due("restore of the present arrangement", 0, yard.restore(0));
        check.due("undo", NONE, yard.undo());
        check.due("redo", NONE, yard.redo());
        check.due("moveAt(0)", NONE, yard.moveAt(0));
        check.due("effort", 0, yard.effort());
    }

    private static void placementsAlone() {
        check.about("Saves the present arrangement (placements alone).");
        BlockYard yard = Check.yard("A../.../...");
        yard.save(0);
        yard.setWeight(0, 9);
        yard.setGoal(0, 2, 2, 1);
        yard.setThreshold(1, 9);
        yard.setStrength(9);
        yard.move(0, 0);
        check.due("restore", 1, yard.restore(0));
        check.due("weight", 9, yard.block(0, 3));
        check.due("goal", 2, yard.block(0, 5));
        check.due("strength", 9, yard.size(3));
        check.due("threshold", 9, yard.setThreshold(1, 1));
    }

    private static void the512thCall() {
        check.about("An object is used for at most 512 calls after it has been made");
        BlockYard yard = new BlockYard();
        for (char sign : "A../.../...".toCharArray()) {
            yard.type(sign);
        }
        yard.readLevel();
        for (int k = 0; k < 200; k++) {
            yard.move(0, k % 2 == 0 ? 0 : 2);
        }
        for (int k = 199; k > 50; k--) {
            check.due("undo", k, yard.undo());
        }
        for (int k = 52; k <= 199; k++) {
            check.due("redo", k, yard.redo());
        }
        check.due("the 510th call", 0, yard.block(0, 2));
        check.due("the 511th call", 1, yard.block(0, 0));
        check.due("the 512th call", 200, yard.redo());
    }
}
