import java.io.IOException;
import java.nio.file.Files;
import java.nio.file.Path;
import java.util.regex.Matcher;
import java.util.regex.Pattern;

/**
 * The calls that ../shared/DOC.md and README.md show, read out of them, with the results that stand there; run from
 * the project's folder.
 */
public final class DocumentTest {
    private static final int EXAMPLES = 4;
    private static final Check check = new Check();

    public static void main(String[] args) throws IOException {
        String document = Files.readString(Path.of("../shared/DOC.md"));
        examples(document);
        face(document);
        readme(Files.readString(Path.of("README.md")));
        check.end();
    }

    /** "1. A block and its goal: type('A') = 1; .. solution(2) = 1." for each of the examples. */
    private static void examples(String document) {
        Matcher example = Pattern.compile("(?m)^(\\d)\\. [^:\n]*: (.*)\\.$").matcher(document);
        int found = 0;
        while (example.find()) {
            found++;
            check.about("example " + example.group(1));
            BlockYard yard = new BlockYard();
            for (String row : example.group(2).split("; ")) {
                int equals = row.lastIndexOf(" = ");
                int want = Integer.parseInt(row.substring(equals + 3));
                check.due(row.substring(0, equals), want, Caller.answer(yard, row.substring(0, equals)));
            }
        }
        check.due("examples found", EXAMPLES, found);
    }

    /** The class has the methods of the public face; FaceTest shows that there is nothing else. */
    private static void face(String document) {
        check.about("the public face");
        String face = document.substring(document.indexOf("public final class"), document.indexOf("## Terms"));
        Matcher method = Pattern.compile("public int (\\w+)\\(([^)]*)\\);").matcher(face);
        int found = 0;
        while (method.find()) {
            found++;
            int parameters = method.group(2).isEmpty() ? 0 : method.group(2).split(",").length;
            check.due("parameters of " + method.group(1), parameters, Caller.parameters(method.group(1)));
        }
        check.due("methods of the class", found, Caller.publicMethods());
    }

    /** The rows "yard.call(1, 2);  // 3: .." of README.md, one after the other, answer so; it names each call. */
    private static void readme(String readme) {
        check.about("README.md");
        BlockYard yard = new BlockYard();
        Check.retype(yard, "A../.../...");
        Matcher row = Pattern.compile("(?m)^yard\\.(\\w+\\([^)]*\\)); +// (-?\\d+)\\b").matcher(readme);
        int found = 0;
        while (row.find()) {
            found++;
            check.due(row.group(1), Integer.parseInt(row.group(2)), Caller.answer(yard, row.group(1)));
        }
        check.due("no rows found", 0, found == 0 ? 1 : 0);
        for (String name : Caller.names()) {
            check.due(name + " is named", "true", String.valueOf(readme.contains("`" + name + "(")));
        }
    }
}
