import java.lang.reflect.Method;
import java.nio.file.Files;
import java.nio.file.Path;
import java.util.regex.Pattern;

/**
 * One test for each sentence of the document that names a boundary case: at the boundary, below it and above it.
 * Each bears the sentence's own words, which must stand in the document once and in no other test's words; and what no
 * test quotes there may name no bound, neither by a number nor by a word for one.
 */
public final class BoundsTest {
    private static final Path DOCUMENT = Path.of("../shared/DOC.md");
    private static final Class<?>[] TESTS = {DeerBounds.class, TextBounds.class, DayBounds.class, ThoughtBounds.class, PromiseBounds.class};
    private static final int PROMISES = 35;

    private static final Pattern BOUND = Pattern.compile("[0-9]|NONE|\\b(none|no|not|nothing|empty|alike|twice|at most|least|first|latest|above|below|"
        + "false|wrap|several|fewest|fewer|greatest|nearest|else|without|too)\\b");

    private final String[] sections = new String[PROMISES + 1];
    private final boolean[][] quoted = new boolean[PROMISES + 1][];

    public static void main(String[] args) throws Exception {
        BoundsTest all = new BoundsTest();
        boolean isReadable = Files.isReadable(DOCUMENT);
        if (isReadable) {
            all.read(Files.readString(DOCUMENT));
        } else {
            System.out.println("no " + DOCUMENT + ": the tests run, their sentences are not looked up");
        }
        all.run(isReadable);
        Check.about("");
        if (isReadable) {
            all.lookForWhatIsLeft();
        }
        Check.finish();
    }

    /** The terms, and the words of each promise behind its face, each on one line. */
    private void read(String document) {
        String ahead = document.substring(document.indexOf("An object is used"), document.indexOf("## The public face"));
        String terms = document.substring(document.indexOf("## Terms"), document.indexOf("## Promise 1:"));
        sections[0] = plain(ahead + terms.replaceAll("(?m)^(## .*|```.*|==== \\d\\.)", ""));
        for (int i = 1; i <= PROMISES; i++) {
            int from = document.indexOf("\n", document.indexOf("## Promise " + i + ":"));
            sections[i] = plain(document.substring(from, document.indexOf("\n## ", from)).replaceFirst("`[^`]*`: ", ""));
        }
        for (int i = 0; i <= PROMISES; i++) {
            quoted[i] = new boolean[sections[i].length()];
        }
    }

    private static String plain(String text) {
        return text.replaceAll("\\s+", " ").trim();
    }

    private void run(boolean lookUp) throws Exception {
        int sentences = 0;
        for (Class<?> tests : TESTS) {
            for (Method test : tests.getDeclaredMethods()) {
                Sentence sentence = test.getAnnotation(Sentence.class);
                if (sentence != null) {
                    Check.about(tests.getSimpleName() + "." + test.getName() + " [" + sentence.value() + "]: ");
                    if (lookUp) {
                        lookUp(sentence);
                    }
                    int asked = Check.asked();
                    test.invoke(null);
                    Check.due("asks at all", Check.asked() > asked + 2, true);
                    sentences++;
                }
            }
        }
        System.out.println(sentences + " sentences");
    }

    private void lookUp(Sentence sentence) {
        String section = sections[sentence.promise()];
        int at = section.indexOf(sentence.value());
        Check.due("stands in the document", at >= 0, true);
        Check.due("stands there once", section.indexOf(sentence.value(), at + 1) < 0, true);
        boolean isQuotedElsewhere = false;
        for (int i = Math.max(0, at); at >= 0 && i < at + sentence.value().length(); i++) {
            isQuotedElsewhere |= quoted[sentence.promise()][i];
            quoted[sentence.promise()][i] = true;
        }
        Check.due("stands in another test's words", isQuotedElsewhere, false);
    }

    private void lookForWhatIsLeft() {
        for (int i = 0; i <= PROMISES; i++) {
            StringBuilder left = new StringBuilder();
            for (int at = 0; at < sections[i].length(); at++) {
                left.append(quoted[i][at] ? '_' : sections[i].charAt(at));
            }
            String words = left.toString().replaceAll("_+", "_");
            Check.due("a bound without a test, in " + (i == 0 ? "the terms" : "promise " + i) + ": " + words, BOUND.matcher(words).find(), false);
        }
    }
}
