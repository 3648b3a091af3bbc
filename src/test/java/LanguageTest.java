import java.io.IOException;
import java.nio.file.Files;
import java.nio.file.Path;
import java.util.regex.Matcher;
import java.util.regex.Pattern;

/** What can be seen of LANGUAGE.md's rules in the words of the source. */
public final class LanguageTest {
    private static final Path SOURCE = Path.of("src", "main", "java", "StateShares.java");
    private static final int MOST_LINES = 60;
    private static final int MOST_PARAMETERS = 7;
    private static final int MOST_FIELDS = 20;

    // A rule of LANGUAGE.md, and what must not stand in code because of it.
    private static final String[][] RULED_OUT = {
        {"no package", "\\bpackage\\b"},
        {"4, no library but java.lang and ArrayList", "\\bimport\\b|\\bjava\\."},
        {"2, no lambda, no method reference", "->|::"},
        {"4, none whose name ends in Exact", "\\w+Exact\\b"},
        {"3, no Math on doubles", "\\bdouble\\b|\\bfloat\\b"},
        {"5, no static initialiser block", "\\bstatic\\s*\\{"},
        {"6, no try, as nothing is caught", "\\btry\\b|\\bcatch\\b|\\bfinally\\b"},
        {"6, no synchronized, assert", "\\bsynchronized\\b|\\bassert\\b"},
        {"6, no equals, hashCode, toString of own objects", "\\bequals\\b|\\bhashCode\\b|\\btoString\\b"},
        {"13, no clock, randomness, file, thread", "\\bSystem\\.(?!arraycopy\\b)|\\bRandom\\b|\\bThread\\b"},
    };

    public static void main(String[] args) throws IOException {
        String code = withoutTextsAndComments(Files.readString(SOURCE));
        for (String[] rule : RULED_OUT) {
            Matcher found = Pattern.compile(rule[1]).matcher(code);
            Check.yes("rule " + rule[0] + ", but: " + (found.find() ? found.group() : ""), !found.find(0));
        }
        checkThrows(code);
        checkMethods(code);
        checkFields(code);
        Check.finish();
    }

    private static String withoutTextsAndComments(String source) {
        return source.replaceAll("(?s)/\\*.*?\\*/", "").replaceAll("//[^\n]*", "")
            .replaceAll("\"[^\"\n]*\"", "\"\"").replaceAll("'.'", "' '");
    }

    /** Rule 6: only the exception that the document names, and only from one place. */
    private static void checkThrows(String code) {
        Matcher thrown = Pattern.compile("\\bthrow\\s+(new \\w+)").matcher(code);
        int found = 0;
        while (thrown.find()) {
            found++;
            Check.yes("rule 6: throw " + thrown.group(1), thrown.group(1).equals("new ArrayIndexOutOfBoundsException"));
        }
        Check.due("how many throw statements there are", 1, found);
    }

    /** Rule 11: methods are short and take few parameters. */
    private static void checkMethods(String code) {
        Matcher head = Pattern.compile("\n( +)(?:[\\w\\[\\]]+ +)*\\w+\\(([^()]*)\\)(?: throws \\w+)? \\{\n").matcher(code);
        int methods = 0;
        while (head.find()) {
            String end = "\n" + head.group(1) + "}";
            int close = code.indexOf(end, head.end() - 1);
            long lines = code.substring(head.end(), Math.max(head.end(), close)).lines().count();
            Check.yes("rule 11: " + head.group().trim() + " has " + lines + " lines", lines <= MOST_LINES);
            Check.yes("rule 11: parameters of " + head.group().trim(), head.group(2).split(",").length <= MOST_PARAMETERS);
            methods++;
        }
        Check.yes("methods were found: " + methods, methods > 100);
    }

    /** Rule 11: a class has some twenty fields beside its constants. */
    private static void checkFields(String code) {
        String[] classes = code.split("\\bclass\\b");
        for (int i = 1; i < classes.length; i++) {
            Matcher field = Pattern.compile("\n *private (?!static)(?:final )?[\\w\\[\\]]+ \\w+;").matcher(classes[i]);
            int fields = 0;
            while (field.find()) {
                fields++;
            }
            Check.yes("rule 11: class" + classes[i].lines().findFirst().orElse("") + " has " + fields + " fields",
                fields <= MOST_FIELDS);
        }
    }
}
