import java.io.IOException;
import java.lang.reflect.InvocationTargetException;
import java.lang.reflect.Method;
import java.nio.file.Files;
import java.nio.file.Path;
import java.util.Arrays;
import java.util.Comparator;
import java.util.regex.Matcher;
import java.util.regex.Pattern;

/**
 * Runs the test of each sentence of the document. Fails too if a test's words do not stand in the document, or if
 * the document has words for which there is no test.
 */
public final class BoundaryTest {
    private static final Class<?>[] TESTS = {WholeBoundaries.class, TermsBoundaries.class, NetBoundaries.class,
        WayBoundaries.class, FixBoundaries.class, LeastBoundaries.class, KeptBoundaries.class};
    private static final int PROMISES = 19;
    private static final int SECTIONS = 22;

    private final String[] sections = new String[SECTIONS];
    private final boolean[][] tested = new boolean[SECTIONS][];

    public static void main(String[] args) throws IOException, ReflectiveOperationException {
        BoundaryTest all = new BoundaryTest(Files.readString(Path.of("../shared/DOC.md")));
        for (Class<?> tests : TESTS) {
            all.runTests(tests);
        }
        all.everyWordIsTested();
        Check.end();
    }

    private BoundaryTest(String document) {
        sections[Sentence.TERMS] = unfenced(partOf(document, "## Terms\n", "\nAhead of the calls"))
            .replaceAll("={8} \\d ", "");
        sections[Sentence.WHAT_IT_IS] = folded(partOf(document, "## What it is\n", "\n## "));
        sections[Sentence.FACE] = unfenced(partOf(document, "## The public face\n", "\n## "));
        for (int i = 1; i <= PROMISES; i++) {
            String part = partOf(document, "## Promise " + i + ":", "\n## ");
            sections[i] = folded(part.substring(part.indexOf("`: ") + 3));
        }
        for (int i = 0; i < SECTIONS; i++) {
            tested[i] = new boolean[sections[i].length()];
        }
    }

    private static String partOf(String text, String from, String to) {
        int begin = text.indexOf(from);
        int end = text.indexOf(to, begin + from.length());
        if (begin < 0 || end < 0) {
            throw new IllegalStateException("the document has no part '" + from.trim() + "'");
        }
        return text.substring(begin + from.length(), end);
    }

    /** Without the lines that begin and end a block of text or code. */
    private static String unfenced(String text) {
        return folded(text.replaceAll("(?m)^```.*$", ""));
    }

    private static String folded(String text) {
        return text.replaceAll("\\s+", " ").trim();
    }

    private void runTests(Class<?> tests) throws ReflectiveOperationException {
        Method[] methods = tests.getDeclaredMethods();
        Arrays.sort(methods, Comparator.comparing(Method::getName));
        for (Method m : methods) {
            Sentence sentence = m.getAnnotation(Sentence.class);
            if (sentence == null) {
                continue;
            }
            Check.within(m.getName());
            for (String words : sentence.says()) {
                markTested(sentence.of(), words);
            }
            try {
                m.invoke(null);
            } catch (InvocationTargetException e) {
                Check.isTrue("threw " + e.getCause(), false);
            }
        }
    }

    private void markTested(int section, String words) {
        int at = sections[section].indexOf(folded(words));
        Check.isTrue("these words stand in section " + section + ": " + words, at >= 0);
        if (at >= 0) {
            Arrays.fill(tested[section], at, at + folded(words).length(), true);
        }
    }

    private void everyWordIsTested() {
        Check.within("everyWordIsTested");
        Pattern word = Pattern.compile("[A-Za-z0-9]+");
        for (int i = 0; i < SECTIONS; i++) {
            StringBuilder missing = new StringBuilder();
            Matcher words = word.matcher(sections[i]);
            while (words.find()) {
                if (!tested[i][words.start()]) {
                    missing.append(' ').append(words.group());
                }
            }
            Check.isTrue("section " + i + " has words without a test:" + missing, missing.length() == 0);
        }
    }
}
