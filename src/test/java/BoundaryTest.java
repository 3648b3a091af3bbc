import java.io.IOException;
import java.nio.file.Files;
import java.nio.file.Path;
import java.util.ArrayList;
import java.util.Arrays;
import java.util.List;

/**
 * Runs a test for each sentence that names a boundary, and looks whether the document is quoted
 * rightly and whole: a sentence of a promise or of "Terms" that no test names is told.
 */
public final class BoundaryTest {
    private static final Path DOCUMENT = Path.of("..", "shared", "DOC.md");

    public static void main(String[] args) throws IOException {
        Check.runAll(BoundaryTerms.TESTS);
        Check.runAll(BoundaryRules.TESTS);
        Check.runAll(BoundaryMarks.TESTS);
        Check.runAll(BoundaryMoves.TESTS);
        Check.runAll(BoundaryForecast.TESTS);
        System.out.println(Check.quotes().size() + " sentences, or parts of them");
        if (Files.isReadable(DOCUMENT)) {
            compareWithDocument(Files.readString(DOCUMENT));
        } else {
            System.out.println("there is no " + DOCUMENT + ": what is quoted was not looked up");
        }
        Check.finish();
    }

    private static void compareWithDocument(String document) {
        List<String> sections = new ArrayList<>(List.of("What it is", "Terms"));
        for (int promise = 1; promise <= 22; promise++) {
            sections.add("Promise " + promise);
        }
        for (String section : sections) {
            String text = textOf(document, section);
            boolean[] quoted = new boolean[text.length()];
            for (Check.Quote q : Check.quotes()) {
                if (q.section().equals(section)) {
                    int place = text.indexOf(q.words());
                    Check.yes(section + " says \"" + q.words() + "\"", place >= 0);
                    Arrays.fill(quoted, Math.max(0, place), place < 0 ? 0 : place + q.words().length(), true);
                }
            }
            if (!section.equals("What it is")) {
                Check.due("words of " + section + " that no test names: " + rest(text, quoted), 0, rest(text, quoted).length());
            }
        }
    }

    /** A section's text in one line, without its heading, fences and the form of the call. */
    private static String textOf(String document, String section) {
        StringBuilder text = new StringBuilder();
        boolean inside = false;
        for (String line : document.split("\n")) {
            if (line.startsWith("## ")) {
                inside = line.equals("## " + section) || line.startsWith("## " + section + ":");
            } else if (inside && !line.startsWith("```")) {
                text.append(line.replaceFirst("^`[^`]*`:", "")).append(' ');
            }
        }
        return text.toString().replaceAll("\\s+", " ");
    }

    private static String rest(String text, boolean[] quoted) {
        StringBuilder rest = new StringBuilder();
        for (int i = 0; i < text.length(); i++) {
            rest.append(quoted[i] ? ' ' : text.charAt(i));
        }
        return rest.toString().replaceAll("[\\s,;.]+", " ").trim();
    }
}
