/** The four examples of the document, call by call. */
public final class ExamplesTest {
    private static final Check check = new Check();

    public static void main(String[] args) {
        aBlockAndItsGoal();
        aBlockOfTwoCells();
        aOneWayFloorAPlateAndAGate();
        aYardWithoutBlocks();
        check.end();
    }

    private static void typed(BlockYard yard, String text) {
        for (int k = 0; k < text.length(); k++) {
            check.due("type of sign " + k, k + 1, yard.type(text.charAt(k)));
        }
    }

    private static void aBlockAndItsGoal() {
        BlockYard yard = new BlockYard();
        typed(yard, "A../.../...");
        check.due("1 readLevel", 1, yard.readLevel());
        check.due("1 setGoal", 1, yard.setGoal(0, 2, 1, 4));
        check.due("1 solve", 3, yard.solve());
        check.due("1 solution(0)", 0, yard.solution(0));
        check.due("1 solution(2)", 1, yard.solution(2));
    }

    private static void aBlockOfTwoCells() {
        BlockYard yard = new BlockYard();
        typed(yard, "aA./..#/...");
        check.due("2 readLevel", 1, yard.readLevel());
        check.due("2 moved(0, 4)", -4, yard.moved(0, 4));
        check.due("2 move(0, 0)", 1, yard.move(0, 0));
        check.due("2 block(0, 0)", 2, yard.block(0, 0));
        check.due("2 deadCount(0)", 0, yard.deadCount(0));
    }

    private static void aOneWayFloorAPlateAndAGate() {
        BlockYard yard = new BlockYard();
        typed(yard, "A>B/0.w/..#");
        check.due("3 readLevel", 2, yard.readLevel());
        check.due("3 possibleCount", 6, yard.possibleCount());
        check.due("3 move(0, 0)", 1, yard.move(0, 0));
        check.due("3 move(1, 2)", -4, yard.move(1, 2));
        check.due("3 isOpen(0)", 0, yard.isOpen(0));
    }

    private static void aYardWithoutBlocks() {
        BlockYard yard = new BlockYard();
        check.due("4 possibleCount", 0, yard.possibleCount());
        check.due("4 isSolved", 1, yard.isSolved());
        check.due("4 solve", 0, yard.solve());
        check.due("4 lowerBound", 0, yard.lowerBound());
        check.due("4 cell(2, 2)", 0, yard.cell(2, 2));
        check.due("4 cell(3, 0)", -2, yard.cell(3, 0));
        check.due("4 blockAt(0, 0)", -7, yard.blockAt(0, 0));
        check.due("4 block(0, 0)", -1, yard.block(0, 0));
        check.due("4 readMoves", 0, yard.readMoves());
        check.due("4 readLevel", -100, yard.readLevel());
        check.due("4 undo", -7, yard.undo());
        check.due("4 redo", -7, yard.redo());
        check.due("4 reachable(4)", 1, yard.reachable(4));
        check.due("4 save(0)", 1, yard.save(0));
        check.due("4 restore(0)", 0, yard.restore(0));
        check.due("4 restore(1)", -7, yard.restore(1));
    }
}
