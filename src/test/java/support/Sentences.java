import java.io.IOException;
import java.io.UncheckedIOException;
import java.nio.file.Files;
import java.nio.file.Path;
import java.util.ArrayList;
import java.util.List;
import java.util.regex.Matcher;
import java.util.regex.Pattern;

/**
 * Tests that are named by the sentences of the document that they hold the class to. Every sentence must stand in the
 * document, and none of the document may be left that is neither tested nor told to name nothing that can be tested.
 */
final class Sentences {
    private static final Path DOCUMENT = Path.of("../shared/DOC.md");
    private static final List<String> TESTED = new ArrayList<>();
    private static final List<String> PLAIN = new ArrayList<>();

    private Sentences() {
    }

    static void test(String sentence, Runnable answers) {
        int before = Due.seen();
        Due.under(sentence);
        answers.run();
        Due.under("");
        Due.is("a look at an answer for \"" + sentence + "\"", Due.seen() > before ? 1 : 0, 1);
        TESTED.add(sentence);
    }

    /** A piece of the document that names no boundary. */
    static void plain(String piece) {
        PLAIN.add(piece);
    }

    /** Marks each piece in the document; what is left may hold no word. */
    static void lookForGaps() {
        StringBuilder rest = new StringBuilder(document());
        List<String> pieces = new ArrayList<>(TESTED);
        pieces.addAll(PLAIN);
        // a short piece could stand inside a longer one
        pieces.sort((a, b) -> b.length() - a.length());
        for (String piece : pieces) {
            int at = rest.indexOf(piece);
            Due.is("\"" + piece + "\" stands in the document", at < 0 ? 0 : 1, 1);
            for (int i = 0; at >= 0 && i < piece.length(); i++) {
                rest.setCharAt(at + i, '#');
            }
        }
        Matcher left = Pattern.compile("[^#]*[A-Za-z][^#]*").matcher(rest);
        while (left.find()) {
            Due.is("nobody tests \"" + left.group().trim() + "\"", 0, 1);
        }
        System.out.println(TESTED.size() + " sentences tested");
    }

    /** The document without its headings and its face, which LanguageTest holds the class to. */
    private static String document() {
        String text;
        try {
            text = Files.readString(DOCUMENT);
        } catch (IOException e) {
            throw new UncheckedIOException(e);
        }
        text = text.replaceAll("(?m)^#.*$", "").replaceAll("(?s)```java.*?```", "").replace("```text", "").replace("```", "");
        return text.replaceAll("\\s+", " ");
    }
}
