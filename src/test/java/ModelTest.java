import java.lang.reflect.Method;
import java.lang.reflect.Modifier;
import java.util.ArrayList;
import java.util.List;
import java.util.Random;

/** Runs of calls that chance picks, with fixed seeds: BlockYard has to answer each as PlainYard does. */
public final class ModelTest {
    private static final String[] CALLS = {
        "type", "clearText", "readLevel", "readMoves", "size", "cell", "blockAt", "block", "setWeight", "setGoal",
        "clearGoal", "setThreshold", "setStrength", "load", "isOpen", "moved", "move", "possibleCount", "possible",
        "undo", "redo", "moveAt", "effort", "save", "restore", "isSolved", "isDead", "deadCount", "distance",
        "lowerBound", "solve", "solution", "reachable"};

    private final Random random;
    private final BlockYard yard = new BlockYard();
    private final PlainYard plain = new PlainYard();
    private final List<String> told = new ArrayList<>();
    private int calls = 0;
    private boolean wrong = false;

    private ModelTest(long seed) {
        random = new Random(seed);
    }

    public static void main(String[] args) {
        int runs = args.length > 0 ? Integer.parseInt(args[0]) : 400;
        long firstSeed = args.length > 1 ? Long.parseLong(args[1]) : 1;
        int wrongRuns = 0;
        for (long seed = firstSeed; seed < firstSeed + runs; seed++) {
            ModelTest run = new ModelTest(seed);
            run.go();
            if (run.wrong) {
                wrongRuns++;
                System.out.println("seed " + seed + ": " + String.join("; ", run.told));
            }
        }
        System.exit(wrongRuns == 0 ? 0 : 1);
    }

    private void go() {
        typeText(level(1 + random.nextInt(31)));
        call("readLevel");
        setUp();
        while (calls < 512 && !wrong) {
            int die = random.nextInt(40);
            if (die == 0 && calls < 400) {
                call("clearText");
                boolean isLevel = random.nextInt(3) == 0;
                typeText(isLevel ? spoilt(level(random.nextInt(32))) : moves());
                call(isLevel ? "readLevel" : "readMoves");
            } else if (die < 14) {
                call("move");
            } else if (die < 17) {
                call(random.nextBoolean() ? "undo" : "redo");
            } else {
                String name = CALLS[random.nextInt(CALLS.length)];
                // the plain yard takes long for these
                boolean dear = List.of("solve", "solution", "reachable").contains(name);
                if (!dear || random.nextInt(3) == 0) {
                    call(name);
                }
            }
        }
    }

    private void setUp() {
        for (int block = 0; block < 5; block++) {
            if (random.nextInt(3) > 0) {
                int orientation = random.nextBoolean() ? 4 : random.nextInt(4);
                compare("setGoal", block, someColumn(), someRow(), orientation);
            }
            if (random.nextInt(4) == 0) {
                compare("setWeight", block, 1 + random.nextInt(9));
            }
        }
        if (random.nextInt(4) == 0) {
            compare("setStrength", 1 + random.nextInt(12));
        }
        call("solve");
        call("reachable");
    }

    private void typeText(String text) {
        for (int k = 0; k < text.length(); k++) {
            compare("type", text.charAt(k));
        }
    }

    /** A level without a fault, with the blocks of the set. */
    private String level(int blocks) {
        int columns = 3 + random.nextInt(random.nextInt(3) == 0 ? 6 : 3);
        int rows = 3 + random.nextInt(random.nextInt(3) == 0 ? 6 : 3);
        char[][] signs = new char[rows][columns];
        int bareness = 1 + random.nextInt(10);
        for (int y = 0; y < rows; y++) {
            for (int x = 0; x < columns; x++) {
                boolean bare = random.nextInt(10) < bareness;
                signs[y][x] = bare ? '.' : "..####><^v0123wxyz00wwww".charAt(random.nextInt(24));
            }
        }
        for (int block = 0; block < 5; block++) {
            if ((blocks >> block & 1) != 0) {
                putBlock(signs, block);
            }
        }
        StringBuilder text = new StringBuilder();
        for (int y = 0; y < rows; y++) {
            text.append(y == 0 ? "" : "/").append(signs[y]);
        }
        return text.toString();
    }

    private String spoilt(String level) {
        StringBuilder text = new StringBuilder(level);
        if (random.nextInt(3) == 0) {
            text.setCharAt(random.nextInt(text.length()), "/ABCDEabcde.w#?f".charAt(random.nextInt(16)));
        }
        if (random.nextInt(8) == 0) {
            text.setLength(random.nextInt(text.length() + 1));
        }
        return text.toString();
    }

    private void putBlock(char[][] signs, int block) {
        int x = random.nextInt(signs[0].length);
        int y = random.nextInt(signs.length);
        int count = 1 + random.nextInt(random.nextBoolean() ? 5 : 2);
        char sign = (char) ('A' + block);
        for (int k = 0; k < count; k++) {
            boolean inside = y >= 0 && y < signs.length && x >= 0 && x < signs[0].length;
            if (inside && !Character.isLetter(signs[y][x])) {
                signs[y][x] = sign;
                sign = (char) ('a' + block);
            }
            // cells far from the pivot pass long ways when the block is turned
            boolean far = random.nextInt(4) == 0;
            x = far ? random.nextInt(signs[0].length) : x + random.nextInt(3) - 1;
            y = far ? random.nextInt(signs.length) : y + random.nextInt(3) - 1;
        }
    }

    private String moves() {
        StringBuilder text = new StringBuilder();
        int count = random.nextInt(6);
        for (int k = 0; k < count; k++) {
            int n = plain.possibleCount();
            int move = n == 0 ? random.nextInt(5) * 10 : plain.possible(random.nextInt(n));
            text.append((char) ('a' + move / 10));
            text.append("rdlutsx".charAt(random.nextInt(9) == 0 ? random.nextInt(7) : move % 10));
        }
        if (random.nextInt(6) == 0) {
            text.append("abcdefA?".charAt(random.nextInt(8)));
        }
        return text.toString();
    }

    private int near(int from, int to) {
        return random.nextInt(30) == 0 ? wild() : from + random.nextInt(to - from + 1);
    }

    private int wild() {
        int[] values = {-1, -2, 9, 46, 100, Integer.MIN_VALUE, Integer.MAX_VALUE, 64, 256};
        return values[random.nextInt(values.length)];
    }

    private int someBlock() {
        int block = near(-1, 5);
        for (int tries = 0; tries < 5 && plain.block(block, 0) < 0; tries++) {
            block = near(-1, 5);
        }
        return block;
    }

    private int someColumn() {
        return near(0, plain.size(0) - 1);
    }

    private int someRow() {
        return near(0, plain.size(1) - 1);
    }

    private void call(String name) {
        switch (name) {
            case "type" -> compare(name, "ab/.rd#\u0000\u00e9\uffff".charAt(random.nextInt(10)));
            case "size" -> compare(name, near(-1, 4));
            case "cell", "blockAt" -> compare(name, someColumn(), someRow());
            case "block" -> compare(name, someBlock(), near(-1, 8));
            case "setWeight" -> compare(name, someBlock(), near(0, 10));
            case "setGoal" -> compare(name, someBlock(), someColumn(), someRow(), near(0, 5));
            case "clearGoal", "deadCount", "distance" -> compare(name, someBlock());
            case "setThreshold" -> compare(name, near(-1, 4), near(0, random.nextBoolean() ? 3 : 12));
            case "setStrength" -> compare(name, near(0, 15));
            case "load", "isOpen", "save", "restore" -> compare(name, near(-1, 4));
            case "moved" -> compare(name, someBlock(), near(-1, 6));
            case "move" -> someMove();
            case "possible", "moveAt" -> compare(name, near(-1, 20));
            case "isDead" -> compare(name, someBlock(), someColumn(), someRow(), near(0, 4));
            case "solution" -> compare(name, near(-1, 4));
            case "reachable" -> compare(name, near(0, random.nextInt(4) == 0 ? 5 : 3));
            default -> compare(name);
        }
    }

    private void someMove() {
        int count = plain.possibleCount();
        if (count > 0 && random.nextInt(5) > 0) {
            int move = plain.possible(random.nextInt(count));
            compare("move", move / 10, move % 10);
        } else {
            compare("move", someBlock(), near(-1, 6));
        }
    }

    private void compare(String name, int... a) {
        calls++;
        int want = answer(plain, name, a);
        int got = answer(yard, name, a);
        StringBuilder row = new StringBuilder(name).append("(");
        for (int k = 0; k < a.length; k++) {
            row.append(k == 0 ? "" : ", ").append(a[k]);
        }
        told.add(row.append(") = ").append(got).toString());
        if (got != want) {
            wrong = true;
            told.add("due is " + want);
        }
    }

    /** Calls the method of this name; both yards bear the same names, and no name twice. */
    private static int answer(Object it, String name, int[] a) {
        for (Method method : it.getClass().getDeclaredMethods()) {
            boolean fits = method.getParameterCount() == a.length && method.getReturnType() == int.class;
            if (method.getName().equals(name) && fits && !Modifier.isPrivate(method.getModifiers())) {
                return invoke(it, method, a);
            }
        }
        throw new IllegalArgumentException(name);
    }

    private static int invoke(Object it, Method method, int[] a) {
        Object[] arguments = new Object[a.length];
        for (int k = 0; k < a.length; k++) {
            arguments[k] = method.getParameterTypes()[k] == char.class ? (Object) (char) a[k] : (Object) a[k];
        }
        try {
            return (Integer) method.invoke(it, arguments);
        } catch (ReflectiveOperationException e) {
            throw new IllegalStateException(method.getName(), e);
        }
    }
}
