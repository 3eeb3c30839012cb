import java.util.function.IntUnaryOperator;

/** Counts and prints the answers that are not the ones that are due; helps the tests to type levels. */
final class Check {
    private int wrong = 0;
    private String sentence = "";

    /** The words of the document that the next calls are about: they are told with each answer that is wrong. */
    void about(String words) {
        sentence = "'" + words + "': ";
    }

    /** Numbers that are too small or too large for the range; some would fall into it if they were cut off. */
    static int[] outside(int low, int high) {
        return new int[] {
            low - 1, low - 2, low - 8, low - 64, low - 256, low - 65536, Integer.MIN_VALUE, Integer.MIN_VALUE + 1,
            high + 1, high + 2, high + 8, high + 64, high + 256, high + 65536, Integer.MAX_VALUE - 1,
            Integer.MAX_VALUE};
    }

    /** The call answers so for each number outside of the range. */
    void outside(String call, int low, int high, int want, IntUnaryOperator answer) {
        for (int number : outside(low, high)) {
            due(call + " with " + number, want, answer.applyAsInt(number));
        }
    }

    /** The call answers so for each number of the range. */
    void inside(String call, int low, int high, int want, IntUnaryOperator answer) {
        for (int number = low; number <= high; number++) {
            due(call + " with " + number, want, answer.applyAsInt(number));
        }
    }

    /** A new yard with the level of the text, which is emptied again. */
    static BlockYard yard(String level) {
        BlockYard yard = new BlockYard();
        read(yard, level);
        return yard;
    }

    /** Reads the level into the yard and leaves the yard's text empty. */
    static int read(BlockYard yard, String level) {
        retype(yard, level);
        int answer = yard.readLevel();
        yard.clearText();
        return answer;
    }

    /** Makes the moves of the text and leaves the yard's text empty. */
    static int play(BlockYard yard, String moves) {
        retype(yard, moves);
        int answer = yard.readMoves();
        yard.clearText();
        return answer;
    }

    static void retype(BlockYard yard, String text) {
        yard.clearText();
        for (int k = 0; k < text.length(); k++) {
            yard.type(text.charAt(k));
        }
    }

    /** What readLevel answers for the text on a new object. */
    static int levelAnswer(String text) {
        BlockYard yard = new BlockYard();
        retype(yard, text);
        return yard.readLevel();
    }

    /** A level of floor alone. */
    static String floor(int columns, int rows) {
        return (".".repeat(columns) + "/").repeat(rows - 1) + ".".repeat(columns);
    }

    /** The level with another sign at this cell; it has as many columns as the first row. */
    static String with(String level, int x, int y, char sign) {
        int place = (level.indexOf('/') + 1) * y + x;
        return level.substring(0, place) + sign + level.substring(place + 1);
    }

    /** Makes so many moves, up to 200, by turning block 0, which has one cell, and leaves the yard's text empty. */
    static void turn(BlockYard yard, int count) {
        retype(yard, "at".repeat(20));
        for (int k = 0; k < count / 20; k++) {
            yard.readMoves();
        }
        play(yard, "at".repeat(count % 20));
    }

    /** The yard as seen from outside: the blocks as letters, capital at the pivots, and the kinds of other cells. */
    static String picture(BlockYard yard) {
        StringBuilder picture = new StringBuilder();
        for (int y = 0; y < yard.size(1); y++) {
            picture.append(y == 0 ? "" : "/");
            for (int x = 0; x < yard.size(0); x++) {
                picture.append(sign(yard, x, y));
            }
        }
        return picture.toString();
    }

    private static char sign(BlockYard yard, int x, int y) {
        int block = yard.blockAt(x, y);
        if (block < 0) {
            return ".#>v<^0123wxyz".charAt(yard.cell(x, y));
        }
        boolean isPivot = yard.block(block, 0) == x && yard.block(block, 1) == y;
        return (char) ((isPivot ? 'A' : 'a') + block);
    }

    void due(String call, long want, long got) {
        if (want != got) {
            wrong++;
            System.out.println(sentence + call + " answered " + got + ", due is " + want);
        }
    }

    void due(String call, String want, String got) {
        if (!want.equals(got)) {
            wrong++;
            System.out.println(sentence + call + " is " + got + ", due is " + want);
        }
    }

    /** Ends the program, with 1 if an answer was wrong. */
    void end() {
        System.exit(wrong == 0 ? 0 : 1);
    }
}
