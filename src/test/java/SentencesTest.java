import java.io.IOException;
import java.lang.reflect.Method;
import java.nio.file.Files;
import java.nio.file.Path;
import java.util.List;
import java.util.regex.Matcher;
import java.util.regex.Pattern;

/**
 * Each sentence that a test quotes stands in the document, under its promise or among the terms; each promise
 * has tests; and nothing of the terms and the promises is left that no test quotes.
 */
public final class SentencesTest {
    private static final List<Class<?>> TESTS = List.of(TapeEdgeTest.class, TextEdgeTest.class, ToldEdgeTest.class, FitEdgeTest.class,
        ClockEdgeTest.class, SqueezeEdgeTest.class, BoughtEdgeTest.class, ActEdgeTest.class, UndoEdgeTest.class, TroubleEdgeTest.class);
    private static final int PROMISES = 42;
    /** Headings, which say nothing by themselves. */
    private static final List<String> HEADINGS = List.of("I. THE TEXT (", "; TOKENS:", ". LINE, one of: ```text", ". FAULTS.", "``` II.",
        "```text", ". ``` III.", "``` The constants:", "`ChannelSqueeze()`:");

    public static void main(String[] args) throws IOException {
        Path document = Path.of(args.length > 0 ? args[0] : ".", "../shared/DOC.md");
        if (!Files.isReadable(document)) {
            System.out.println("there is no document at " + document + ", so no sentence is compared");
            return;
        }
        String text = Files.readString(document).replaceAll("\\s+", " ");
        boolean[] quoted = new boolean[text.length()];
        for (int promise = 1; promise <= PROMISES; promise++) {
            int found = 0;
            for (Class<?> tests : TESTS) {
                for (Method test : Edges.testsOf(tests)) {
                    if (Edges.promiseOf(test) == promise) {
                        found++;
                        mark(text, quoted, promise, test);
                    }
                }
            }
            Check.isTrue("promise " + promise + " has tests", found > 0);
        }
        for (Class<?> tests : TESTS) {
            for (Method test : Edges.testsOf(tests)) {
                int promise = Edges.promiseOf(test);
                Check.isTrue(test.getName() + " is of a promise", promise >= 1 && promise <= PROMISES);
            }
        }
        leftOf(text, quoted, "## Terms", "Ahead of the calls");
        for (int promise = 1; promise <= PROMISES; promise++) {
            leftOf(text, quoted, headOf(promise), promise < PROMISES ? headOf(promise + 1) : "## Not promised");
        }
        Check.end();
    }

    private static String headOf(int promise) {
        return "## Promise " + promise + ":";
    }

    /** What is told of a promise: its own words, the terms, and what goes ahead of all. */
    private static void mark(String text, boolean[] quoted, int promise, Method test) {
        String sentence = test.getAnnotation(Says.class).value();
        int own = text.indexOf(headOf(promise));
        int end = promise < PROMISES ? text.indexOf(headOf(promise + 1)) : text.indexOf("## Not promised");
        int terms = text.indexOf("Ahead of the calls");
        boolean found = false;
        for (int at = text.indexOf(sentence); at >= 0; at = text.indexOf(sentence, at + 1)) {
            if (at < terms || at >= own && at < end) {
                found = true;
                java.util.Arrays.fill(quoted, at, at + sentence.length(), true);
            }
        }
        Check.isTrue(test.getName() + " quotes what the document says: " + sentence, found);
    }

    private static void leftOf(String text, boolean[] quoted, String from, String to) {
        int begin = text.indexOf(from) + from.length();
        int end = text.indexOf(to);
        Check.isTrue(from + " is found", begin >= from.length() && end >= begin);
        StringBuilder left = new StringBuilder();
        for (int i = begin; i < end; i++) {
            left.append(quoted[i] ? '\u0000' : text.charAt(i));
        }
        // a heading's name and the call's own line aren't sentences
        String rest = left.toString().replaceFirst("^ [A-Za-z ]*(?=`)", "").replaceAll("`[A-Za-z]+ [^`]*\\)( throws [A-Za-z]+)?`:?", "");
        Matcher words = Pattern.compile("[^\u0000]*[A-Za-z0-9][^\u0000]*").matcher(rest);
        while (words.find()) {
            Check.isTrue(from + " has what no test quotes: " + words.group(), HEADINGS.contains(words.group().trim()));
        }
    }
}
