import java.util.LinkedHashMap;
import java.util.Map;
import java.util.function.Consumer;
import java.util.function.Supplier;
import java.util.function.ToIntFunction;

/**
 * "A call that reports an error changes nothing": behind each call that reports an error, or only tells something, a
 * yard answers as another one does on which all other calls are the same.
 */
public final class ErrorsTest {
    private static final Check check = new Check();
    private static final Map<String, ToIntFunction<BlockYard>> ERRORS = new LinkedHashMap<>();
    private static final Map<String, ToIntFunction<BlockYard>> QUESTIONS = new LinkedHashMap<>();

    public static void main(String[] args) {
        check.about("A call that reports an error changes nothing.");
        errorsOfBlocks();
        errorsOfCells();
        errorsOfValues();
        for (Map.Entry<String, ToIntFunction<BlockYard>> call : ERRORS.entrySet()) {
            for (String level : new String[] {"Aa.0/..wB/D...", "..../..../D..."}) {
                changesNothing(call.getKey(), () -> usedYard(level), call.getValue(), true);
            }
        }
        errorsOfStates();
        check.about("NONE = -7: There is no such thing; not an error. It changes nothing, either.");
        nothingThere();
        check.about("Returns ..: a question changes nothing");
        questions();
        for (Map.Entry<String, ToIntFunction<BlockYard>> call : QUESTIONS.entrySet()) {
            changesNothing(call.getKey(), () -> usedYard("Aa.0/..wB/D..."), call.getValue(), false);
        }
        check.end();
    }

    private static void errorsOfBlocks() {
        for (int block : new int[] {-1, 2, 5, Integer.MIN_VALUE, Integer.MAX_VALUE}) {
            ERRORS.put("block " + block, yard -> yard.block(block, 0));
            ERRORS.put("setWeight of " + block, yard -> yard.setWeight(block, 5));
            ERRORS.put("setGoal of " + block, yard -> yard.setGoal(block, 0, 0, 0));
            ERRORS.put("clearGoal of " + block, yard -> yard.clearGoal(block));
            ERRORS.put("moved of " + block, yard -> yard.moved(block, 4));
            ERRORS.put("move of " + block, yard -> yard.move(block, 4));
            ERRORS.put("isDead of " + block, yard -> yard.isDead(block, 0, 0, 0));
            ERRORS.put("deadCount of " + block, yard -> yard.deadCount(block));
            ERRORS.put("distance of " + block, yard -> yard.distance(block));
        }
    }

    private static void errorsOfCells() {
        for (int[] cell : new int[][] {{-1, 0}, {4, 0}, {0, -1}, {0, 3}, {-1, 1}, {12, -1}}) {
            String name = cell[0] + ", " + cell[1];
            ERRORS.put("cell " + name, yard -> yard.cell(cell[0], cell[1]));
            ERRORS.put("blockAt " + name, yard -> yard.blockAt(cell[0], cell[1]));
            ERRORS.put("setGoal in " + name, yard -> yard.setGoal(3, cell[0], cell[1], 0));
            ERRORS.put("isDead in " + name, yard -> yard.isDead(3, cell[0], cell[1], 0));
        }
    }

    private static void errorsOfValues() {
        for (int wrong : new int[] {-1, 46, Integer.MIN_VALUE, Integer.MAX_VALUE}) {
            ERRORS.put("size of " + wrong, yard -> yard.size(wrong));
            ERRORS.put("block with " + wrong, yard -> yard.block(3, wrong));
            ERRORS.put("setGoal with " + wrong, yard -> yard.setGoal(3, 1, 1, wrong));
            ERRORS.put("setThreshold of " + wrong, yard -> yard.setThreshold(wrong, 1));
            ERRORS.put("setThreshold with " + wrong, yard -> yard.setThreshold(0, wrong));
            ERRORS.put("setStrength with " + wrong, yard -> yard.setStrength(wrong));
            ERRORS.put("setWeight with " + wrong, yard -> yard.setWeight(3, wrong));
            ERRORS.put("load of " + wrong, yard -> yard.load(wrong));
            ERRORS.put("isOpen of " + wrong, yard -> yard.isOpen(wrong));
            ERRORS.put("moved with " + wrong, yard -> yard.moved(3, wrong));
            ERRORS.put("move with " + wrong, yard -> yard.move(3, wrong));
            ERRORS.put("save " + wrong, yard -> yard.save(wrong));
            ERRORS.put("restore " + wrong, yard -> yard.restore(wrong));
            ERRORS.put("isDead with " + wrong, yard -> yard.isDead(3, 1, 1, wrong));
            ERRORS.put("reachable " + wrong, yard -> yard.reachable(wrong));
        }
        ERRORS.put("setWeight with 0", yard -> yard.setWeight(3, 0));
        ERRORS.put("setWeight with 10", yard -> yard.setWeight(3, 10));
        ERRORS.put("setThreshold with 0", yard -> yard.setThreshold(3, 0));
        ERRORS.put("setStrength with 0", yard -> yard.setStrength(0));
        ERRORS.put("setGoal with 5", yard -> yard.setGoal(3, 1, 1, 5));
        ERRORS.put("isDead with 4", yard -> yard.isDead(3, 1, 1, 4));
        ERRORS.put("size of 4", yard -> yard.size(4));
        ERRORS.put("block with 8", yard -> yard.block(3, 8));
        ERRORS.put("move with 6", yard -> yard.move(3, 6));
        ERRORS.put("move that is not possible", yard -> yard.move(3, 1));
        ERRORS.put("moved that is not possible", yard -> yard.moved(3, 1));
        ERRORS.put("save 4", yard -> yard.save(4));
        ERRORS.put("restore 4", yard -> yard.restore(4));
        ERRORS.put("reachable 5", yard -> yard.reachable(5));
        ERRORS.put("possible(-1)", yard -> yard.possible(-1));
        ERRORS.put("moveAt(-1)", yard -> yard.moveAt(-1));
        ERRORS.put("solution(-1)", yard -> yard.solution(-1));
        ERRORS.put("readLevel", BlockYard::readLevel);
        ERRORS.put("readMoves", BlockYard::readMoves);
    }

    /** Errors that need a state of their own: full texts, full histories, faults behind good moves. */
    private static void errorsOfStates() {
        Supplier<BlockYard> fullText = () -> typed(usedYard("Aa.0/..wB/D..."), "dt".repeat(40));
        changesNothing("type behind 80 signs", fullText, yard -> yard.type('d'), true);
        changesNothing("readLevel of a text of moves", fullText, BlockYard::readLevel, true);
        Supplier<BlockYard> almostMoves = () -> typed(usedYard("Aa.0/..wB/D..."), "dtdrdtdl?");
        changesNothing("readMoves of a text with a fault", almostMoves, BlockYard::readMoves, true);
        Supplier<BlockYard> almostALevel = () -> typed(usedYard("Aa.0/..wB/D..."), "C...e/...../.....");
        changesNothing("readLevel of a text with a fault", almostALevel, BlockYard::readLevel, true);
        Supplier<BlockYard> fullHistory = () -> typed(turnedYard(200), "atar");
        changesNothing("move behind 200 moves", fullHistory, yard -> yard.move(0, 0), true);
        changesNothing("readMoves behind 200 moves", fullHistory, BlockYard::readMoves, true);
        Supplier<BlockYard> almostFull = () -> undone(typed(turnedYard(200), "atar"));
        changesNothing("readMoves behind 199 moves", almostFull, BlockYard::readMoves, true);
        Supplier<BlockYard> many = ErrorsTest::manyArrangements;
        changesNothing("solve that is given up", many, BlockYard::solve, true);
        changesNothing("solution that is given up", many, yard -> yard.solution(0), true);
        changesNothing("reachable that is given up", many, yard -> yard.reachable(4), true);
    }

    private static void nothingThere() {
        Supplier<BlockYard> used = () -> usedYard("Aa.0/..wB/D...");
        changesNothing("restore of an empty slot", used, yard -> yard.restore(3), true);
        changesNothing("blockAt of an empty cell", used, yard -> yard.blockAt(0, 1), true);
        changesNothing("possible of none", used, yard -> yard.possible(99), true);
        changesNothing("moveAt of none", used, yard -> yard.moveAt(99), true);
        changesNothing("solution of none", used, yard -> yard.solution(99), true);
        changesNothing("isDead of no placement", used, yard -> yard.isDead(0, 3, 0, 0), true);
        Supplier<BlockYard> fresh = () -> Check.yard("Aa.0/..wB/D...");
        changesNothing("undo of none", fresh, BlockYard::undo, true);
        changesNothing("redo of none", fresh, BlockYard::redo, true);
        changesNothing("block without a goal", fresh, yard -> yard.block(0, 5), true);
    }

    private static void questions() {
        QUESTIONS.put("size", yard -> yard.size(0));
        QUESTIONS.put("cell", yard -> yard.cell(0, 0));
        QUESTIONS.put("blockAt", yard -> yard.blockAt(3, 1));
        QUESTIONS.put("block", yard -> yard.block(3, 0));
        QUESTIONS.put("load", yard -> yard.load(0));
        QUESTIONS.put("isOpen", yard -> yard.isOpen(0));
        QUESTIONS.put("moved", yard -> yard.moved(3, 0));
        QUESTIONS.put("moved by a turn", yard -> yard.moved(3, 4));
        QUESTIONS.put("possibleCount", BlockYard::possibleCount);
        QUESTIONS.put("possible", yard -> yard.possible(1));
        QUESTIONS.put("moveAt", yard -> yard.moveAt(0));
        QUESTIONS.put("effort", BlockYard::effort);
        QUESTIONS.put("isSolved", BlockYard::isSolved);
        QUESTIONS.put("isDead", yard -> yard.isDead(3, 0, 0, 0));
        QUESTIONS.put("deadCount", yard -> yard.deadCount(3));
        QUESTIONS.put("distance", yard -> yard.distance(3));
        QUESTIONS.put("lowerBound", BlockYard::lowerBound);
        QUESTIONS.put("solve", BlockYard::solve);
        QUESTIONS.put("solution", yard -> yard.solution(0));
        QUESTIONS.put("reachable", yard -> yard.reachable(2));
    }

    /** A yard in which block 3 has made three moves, and two have been undone; other things are set, too. */
    private static BlockYard usedYard(String level) {
        BlockYard yard = Check.yard(level);
        yard.setWeight(3, 3);
        yard.setWeight(0, 2);
        yard.setGoal(3, 3, 2, 1);
        yard.setGoal(0, 1, 0, 4);
        yard.setStrength(9);
        yard.setThreshold(0, 3);
        yard.setThreshold(2, 17);
        yard.save(0);
        Check.play(yard, "drdt");
        yard.save(2);
        Check.play(yard, "drdsdl");
        yard.undo();
        yard.undo();
        return typed(yard, "dt?");
    }

    private static BlockYard turnedYard(int moves) {
        BlockYard yard = Check.yard("A../.../..D");
        yard.save(1);
        Check.turn(yard, moves);
        return yard;
    }

    private static BlockYard manyArrangements() {
        BlockYard yard = Check.yard("A....w.#/#######C/B......./.......D");
        yard.setGoal(0, 5, 0, 4);
        Check.play(yard, "arar");
        return undone(yard);
    }

    private static BlockYard undone(BlockYard yard) {
        yard.undo();
        return yard;
    }

    private static BlockYard typed(BlockYard yard, String text) {
        Check.retype(yard, text);
        return yard;
    }

    /** The call answers with an error, if it is due, and then all is as it would be without the call. */
    private static void changesNothing(String name, Supplier<BlockYard> maker, ToIntFunction<BlockYard> call,
            boolean isError) {
        BlockYard untouched = maker.get();
        BlockYard yard = maker.get();
        int answer = call.applyAsInt(yard);
        check.due(name + ": answer " + answer + " is negative", isError ? 1 : 0, answer < 0 ? 1 : 0);
        check.due("all behind " + name, all(untouched), all(yard));
    }

    /** All that can be asked, and at last what can only be seen by changing it. */
    private static String all(BlockYard yard) {
        StringBuilder told = new StringBuilder();
        Consumer<Integer> tell = answer -> told.append(answer).append(' ');
        for (int k = 0; k < 4; k++) {
            tell.accept(yard.size(k));
            tell.accept(yard.load(k));
            tell.accept(yard.isOpen(k));
            tell.accept(yard.moveAt(k));
            tell.accept(yard.solution(k));
        }
        for (int block = 0; block < 5; block++) {
            for (int what = 0; what < 8; what++) {
                tell.accept(yard.block(block, what));
            }
            tell.accept(yard.deadCount(block));
        }
        tell.accept(yard.lowerBound());
        tell.accept(yard.possibleCount());
        tell.accept(yard.reachable(2));
        tell.accept(yard.effort());
        told.append("| moves ");
        for (int k = 0; k < 3; k++) {
            tell.accept(yard.redo());
            arrangement(yard, tell);
        }
        for (int k = 0; k < 5; k++) {
            tell.accept(yard.undo());
            arrangement(yard, tell);
        }
        told.append("| text ");
        tell.accept(yard.readMoves());
        arrangement(yard, tell);
        told.append("| slots ");
        for (int slot = 0; slot < 4; slot++) {
            tell.accept(yard.restore(slot));
            arrangement(yard, tell);
        }
        told.append("| thresholds ");
        for (int group = 0; group < 4; group++) {
            tell.accept(yard.setThreshold(group, 1));
        }
        tell.accept(yard.readLevel());
        tell.accept(yard.clearText());
        return told.toString();
    }

    private static void arrangement(BlockYard yard, Consumer<Integer> tell) {
        for (int block = 0; block < 5; block++) {
            if (yard.block(block, 0) >= 0) {
                tell.accept(yard.block(block, 0));
                tell.accept(yard.block(block, 1));
                tell.accept(yard.block(block, 2));
            }
        }
        tell.accept(yard.effort());
    }
}
