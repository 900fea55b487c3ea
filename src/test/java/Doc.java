import java.io.IOException;
import java.nio.charset.StandardCharsets;
import java.nio.file.Files;
import java.nio.file.Path;

/** The document: each test names the sentence that it holds the class to, and no sentence may stay unnamed. */
final class Doc {
    private static final Path PATH = Path.of("../shared/DOC.md");
    private static final String FIRST = "An object is used for at most";
    private static final String BEHIND = "## Not promised";
    private static final String FACE = "## The public face";
    private static final String TERMS = "## Terms";

    private final String text;
    private final boolean[] named;
    private String sentence = "";
    private int wrong = 0;
    private int sentences = 0;

    Doc() throws IOException {
        text = Files.exists(PATH) ? wordsOf(Files.readString(PATH, StandardCharsets.UTF_8)) : "";
        named = new boolean[text.length()];
        if (text.isEmpty()) {
            System.out.println("no document at " + PATH + ": what the tests name is not looked up");
        }
    }

    /** The sentences that promise something, without headings, signatures and the lay-out's signs. */
    private static String wordsOf(String whole) {
        StringBuilder words = new StringBuilder();
        String promises = whole.substring(whole.indexOf(FIRST), whole.indexOf(FACE))
            + whole.substring(whole.indexOf(TERMS), whole.indexOf(BEHIND));
        for (String line : promises.split("\n")) {
            if (!line.startsWith("#") && !line.startsWith("```")) {
                words.append(line.replaceAll("^==== \\d\\. PAGES\\. |^==== \\d\\. |^`[^`]*`: ", "")).append(' ');
            }
        }
        return words.toString().replaceAll("\\s+", " ");
    }

    /** The sentence, word by word, that what follows is a test of. */
    void name(String words) {
        sentence = words;
        sentences++;
        if (text.isEmpty()) {
            return;
        }
        int at = text.indexOf(words);
        if (at < 0 || text.indexOf(words, at + 1) >= 0) {
            complain(at < 0 ? "the document does not say it" : "the document says it more than once");
            return;
        }
        for (int i = at; i < at + words.length(); i++) {
            named[i] = true;
        }
    }

    void due(String what, long got, long want) {
        if (got != want) {
            complain(what + ": " + got + ", due is " + want);
        }
    }

    private void complain(String what) {
        wrong++;
        if (wrong <= 40) {
            System.out.println("\"" + sentence + "\": " + what);
        }
    }

    private void requireAllNamed() {
        int since = 0;
        for (int i = 0; i <= named.length; i++) {
            if (i == named.length || named[i]) {
                String left = i > since ? text.substring(since, i) : "";
                if (left.matches(".*[A-Za-z0-9].*")) {
                    sentence = left.trim();
                    complain("no test names it");
                }
                since = i + 1;
            }
        }
    }

    /** How many answers are not as due. */
    int close() {
        requireAllNamed();
        System.out.println(wrong == 0 ? sentences + " sentences hold" : wrong + " answers are not as due");
        return wrong;
    }
}
