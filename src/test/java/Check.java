/** Counts and prints the answers that are not the ones that are due; helps the tests to type levels. */
final class Check {
    private int wrong = 0;

    /** A new yard with the level of the text, which is emptied again. */
    static BlockYard yard(String level) {
        BlockYard yard = new BlockYard();
        read(yard, level);
        return yard;
    }

    /** Reads the level into the yard and leaves the yard's text empty. */
    static int read(BlockYard yard, String level) {
        retype(yard, level);
        int answer = yard.readLevel();
        yard.clearText();
        return answer;
    }

    /** Makes the moves of the text and leaves the yard's text empty. */
    static int play(BlockYard yard, String moves) {
        retype(yard, moves);
        int answer = yard.readMoves();
        yard.clearText();
        return answer;
    }

    static void retype(BlockYard yard, String text) {
        yard.clearText();
        for (int k = 0; k < text.length(); k++) {
            yard.type(text.charAt(k));
        }
    }

    /** What readLevel answers for the text on a new object. */
    static int levelAnswer(String text) {
        BlockYard yard = new BlockYard();
        retype(yard, text);
        return yard.readLevel();
    }

    /** The yard as seen from outside: the blocks as letters, capital at the pivots, and the kinds of other cells. */
    static String picture(BlockYard yard) {
        StringBuilder picture = new StringBuilder();
        for (int y = 0; y < yard.size(1); y++) {
            picture.append(y == 0 ? "" : "/");
            for (int x = 0; x < yard.size(0); x++) {
                picture.append(sign(yard, x, y));
            }
        }
        return picture.toString();
    }

    private static char sign(BlockYard yard, int x, int y) {
        int block = yard.blockAt(x, y);
        if (block < 0) {
            return ".#>v<^0123wxyz".charAt(yard.cell(x, y));
        }
        boolean isPivot = yard.block(block, 0) == x && yard.block(block, 1) == y;
        return (char) ((isPivot ? 'A' : 'a') + block);
    }

    void due(String call, long want, long got) {
        if (want != got) {
            wrong++;
            System.out.println(call + " answered " + got + ", due is " + want);
        }
    }

    void due(String call, String want, String got) {
        if (!want.equals(got)) {
            wrong++;
            System.out.println(call + " is " + got + ", due is " + want);
        }
    }

    /** Ends the program, with 1 if an answer was wrong. */
    void end() {
        System.exit(wrong == 0 ? 0 : 1);
    }
}
