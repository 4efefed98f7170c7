import java.io.IOException;
import java.nio.file.Files;
import java.nio.file.Path;
import java.util.List;
import java.util.regex.Matcher;
import java.util.regex.Pattern;

/** What of LANGUAGE.md a look at the text of the program can tell; run from the folder of the project. */
final class LanguageTest {
    private static final Path PROGRAM = Path.of("src/main/java/BoundWright.java");
    private static final int LONGEST_METHOD = 60;
    private static final int MOST_PARAMETERS = 7;
    private static final int MOST_CLASSES = 12;
    private static final String[] NEVER = {
        "\\btry\\b", "\\bcatch\\b", "\\bfinally\\b", "\\bsynchronized\\b", "\\bassert\\b", "->", "::",
        "\\binstanceof\\b", "\\bstatic\\s*\\{", "\\bSystem\\b", "\\bThread\\b", "\\bRandom\\b", "\\bvar\\b",
        "Exact\\(", "\\bequals\\(", "\\bhashCode\\(", "\\btoString\\(", "\"\"\\s*\\+|\\+\\s*\"\"", "\\bpackage\\b",
        "\\bprotected\\b",
    };

    private final Check check = new Check("LanguageTest");

    public static void main(String[] arguments) throws IOException {
        LanguageTest test = new LanguageTest();
        List<String> lines = Files.readAllLines(PROGRAM);
        String text = String.join("\n", lines).replaceAll("(?s)/\\*.*?\\*/", "").replaceAll("//[^\n]*", "")
                .replaceAll("\"[^\"\n]*\"", "\"\"");
        test.words(text);
        test.making(text);
        test.names(text);
        test.loops(text);
        test.sizes(text);
        test.check.end();
    }

    private void words(String text) {
        for (String each : NEVER) {
            check.due("rules 6 and 10, " + each, count(text, each), 0);
        }
        check.due("rule 4, imports", count(text, "\\bimport\\b"), 1);
        check.due("rule 4, the import", count(text, "import java\\.util\\.Arrays;"), 1);
        check.due("rule 6, what is thrown", count(text, "\\bthrow\\b"),
                count(text, "throw new (IllegalState|IllegalArgument|IndexOutOfBounds)Exception\\(\"\"\\);"));
        check.due("rule 5, static fields are final", count(text, "\\bstatic (?!final)[^(;{]*[;=]"), 0);
    }

    /** Rule 12 and the one room: all is made with the object, and nothing by a call but exceptions. */
    private void making(String text) {
        int fields = count(text, "final (int|boolean)\\[\\] \\w+ = new (int|boolean)\\[[A-Z_0-9 *]+\\];");
        int parts = count(text, "\n        \\w+ = new [A-Z]\\w+\\([a-z, ]*\\);");
        int thrown = count(text, "throw new ");
        check.due("rule 12, what is made", count(text, "\\bnew\\b"), fields + parts + thrown);
        check.due("the parts are made in the constructor", parts, 7);
    }

    private void names(String text) {
        Matcher method = Pattern.compile("\\bprivate (?:static )?[a-z\\[\\]]+ (\\w+)\\(").matcher(text);
        int methods = 0;
        while (method.find()) {
            methods++;
            int faces = count(text, "\n    public [a-z]+ " + method.group(1) + "\\(");
            check.due("rule 1, a private " + method.group(1), faces, 0);
        }
        check.due("the private methods are found", methods > 60, true);
    }

    /** Rule 9: each loop counts, and looks at its counter in its own line. */
    private void loops(String text) {
        check.due("rule 9, for", count(text, "\\bfor \\("),
                count(text, "\\bfor \\(int (\\w+) = [^;]+; [^;]*\\b\\1 [<>]=? [^;]+; \\1(\\+\\+|--)\\)"));
        check.due("rule 9, while", count(text, "\\bwhile \\("),
                count(text, "\\bwhile \\([^\n]*\\b(count > 0|arrays < DEEPEST_ERASED)\\)"));
        check.due("rule 9, do", count(text, "\\bdo \\{"), 0);
    }

    private void sizes(String text) {
        check.due("rule 11, classes", count(text, "\\b(class|interface|enum|record) \\w+") <= MOST_CLASSES, true);
        String header = "\n {4,8}(?:[a-z]+ )*[A-Za-z\\[\\]]+ (\\w+)\\(([^)]*)\\)[^;{]*\\{";
        Matcher method = Pattern.compile(header).matcher(text);
        int methods = 0;
        while (method.find()) {
            methods++;
            String called = method.group(1);
            int parameters = method.group(2).isBlank() ? 0 : method.group(2).split(",").length;
            check.due("rule 11, parameters of " + called, parameters <= MOST_PARAMETERS, true);
            check.due("rule 11, lines of " + called, linesOf(text, method.end()) <= LONGEST_METHOD, true);
        }
        check.due("the methods are found", methods > 100, true);
    }

    /** How many lines there are from behind a brace to the one that closes it. */
    private static int linesOf(String text, int start) {
        int open = 1;
        int lines = 1;
        for (int at = start; at < text.length() && open > 0; at++) {
            char sign = text.charAt(at);
            open += sign == '{' ? 1 : sign == '}' ? -1 : 0;
            lines += sign == '\n' ? 1 : 0;
        }
        return lines;
    }

    private static int count(String text, String pattern) {
        Matcher matcher = Pattern.compile(pattern).matcher(text);
        int count = 0;
        while (matcher.find()) {
            count++;
        }
        return count;
    }
}
