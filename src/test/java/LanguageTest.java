import java.io.IOException;
import java.nio.file.Files;
import java.nio.file.Path;
import java.util.regex.Matcher;
import java.util.regex.Pattern;

/** The rules of LANGUAGE.md that can be seen in the text of the program; run from the project's folder. */
public final class LanguageTest {
    private static final Check check = new Check();
    private static final String[] FORBIDDEN = {
        "\\bthrows?\\b", "\\btry\\b", "\\bcatch\\b", "\\bfinally\\b", "\\bsynchronized\\b", "\\bassert\\b",
        "\\bpackage\\b", "\\bvar\\b", "\\bvolatile\\b", "\\bnative\\b", "\\bstrictfp\\b", "->", "::",
        "\\bstatic\\s*\\{", "@", "\\w+Exact\\b", "\\bSystem\\.(?!arraycopy)", "\\bThread\\b", "\\bMath\\.random\\b",
        "\\bdouble\\b", "\\bfloat\\b", "while \\(true\\)", "for \\(;;\\)", "hashCode", "toString"};

    public static void main(String[] args) throws IOException {
        String source = Files.readString(Path.of("src/main/java/BlockYard.java"));
        for (int k = 0; k < source.length(); k++) {
            if (source.charAt(k) > 127) {
                check.due("sign at " + k + " beyond 127", 0, source.charAt(k));
            }
        }
        String code = source.replaceAll("(?s)/\\*.*?\\*/", "").replaceAll("//[^\n]*", "");
        for (String forbidden : FORBIDDEN) {
            Matcher found = Pattern.compile(forbidden).matcher(code);
            check.due("use of " + forbidden, "none", found.find() ? found.group() : "none");
        }
        imports(code);
        parameters(code);
        lengths(code);
        check.end();
    }

    private static void imports(String code) {
        Matcher found = Pattern.compile("import ([^;]*);").matcher(code);
        while (found.find()) {
            String name = found.group(1);
            boolean listed = name.equals("java.util.Arrays") || name.equals("java.util.ArrayList")
                    || name.equals("java.util.List") || name.equals("java.util.Iterator");
            check.due("import of " + name, "listed", listed ? "listed" : "not listed");
        }
        Matcher arrays = Pattern.compile("Arrays\\.(\\w+)").matcher(code);
        while (arrays.find()) {
            String name = arrays.group(1);
            boolean listed = name.equals("fill") || name.equals("copyOf") || name.equals("copyOfRange");
            check.due("Arrays." + name, "listed", listed ? "listed" : "not listed");
        }
    }

    private static void parameters(String code) {
        Matcher found = Pattern.compile("(\\w+)\\(((?:[\\w\\[\\]]+ \\w+(?:, )?)+)\\) \\{").matcher(code);
        while (found.find()) {
            int count = found.group(2).split(",").length;
            check.due("parameters of " + found.group(1) + " beyond seven", 0, Math.max(0, count - 7));
        }
    }

    /** A method begins with a line that opens it and ends with the brace that stands below its first sign. */
    private static void lengths(String code) {
        String[] lines = code.split("\n");
        for (int k = 0; k < lines.length; k++) {
            Matcher head = Pattern.compile("^( {4}| {8})(?=\\S)[\\w\\[\\]. ]+\\(.*\\) \\{$").matcher(lines[k]);
            if (head.matches()) {
                int end = k;
                while (end < lines.length - 1 && !lines[end].equals(head.group(1) + "}")) {
                    end++;
                }
                check.due("lines beyond sixty of " + lines[k].trim(), 0, Math.max(0, end - k + 1 - 60));
            }
        }
    }
}
