import java.lang.reflect.InvocationTargetException;
import java.lang.reflect.Method;
import java.nio.file.Files;
import java.nio.file.Path;
import java.util.ArrayList;
import java.util.BitSet;
import java.util.Comparator;
import java.util.HashSet;
import java.util.List;
import java.util.Set;
import java.util.regex.Matcher;
import java.util.regex.Pattern;

/**
 * Runs each test that is named after a sentence, and holds the names against the document (told: DOC.md): each stands
 * there word for word, and none that tells a bound or a code is without a test.
 */
public final class EdgeTest extends Checks {
    private static final Class<?>[] EDGES = {TextEdges.class, LawEdges.class, DeedEdges.class, WeekEdges.class,
        DayEdges.class, AskedEdges.class, TrayEdges.class, CallEdges.class};
    private static final int PROMISES = 41;
    /** What tells a bound or a code. */
    private static final Pattern MARK = Pattern.compile("(?<![\\w.])-?\\d[\\d,]*|NONE|MISSING|\\bat (most|least)"
        + "|\\b(none|empty|refused|stays?|can't|aren't|isn't|first|eldest|later|latest)\\b");
    /** What has numbers of its own that are no bounds: headings and the faces of the calls. */
    private static final Pattern LABEL = Pattern.compile("(?m)^## .*$|^==== \\d\\.|^`[^`]*`:");

    private static int failed;

    private static List<Method> tests() {
        List<Method> all = new ArrayList<>();
        for (Class<?> edges : EDGES) {
            for (Method m : edges.getDeclaredMethods()) {
                if (m.isAnnotationPresent(Sentence.class)) {
                    all.add(m);
                }
            }
        }
        all.sort(Comparator.comparingInt((Method m) -> of(m).promise()).thenComparing(Method::getName));
        return all;
    }

    private static Sentence of(Method m) {
        return m.getAnnotation(Sentence.class);
    }

    private static void fail(String why) {
        failed++;
        System.out.println("FAILED: " + why);
    }

    private static void run(Method m) throws IllegalAccessException {
        int before = wrong;
        m.setAccessible(true);
        try {
            m.invoke(null);
        } catch (InvocationTargetException e) {
            due("a call that throws " + e.getCause(), 1, 0);
        }
        if (wrong != before) {
            fail("promise " + of(m).promise() + ", \"" + of(m).says() + "\": " + m.getName());
        }
    }

    /** The terms are section 0, promise p is section p. */
    private static String section(String doc, int p) {
        int from = doc.indexOf(p == 0 ? "# HiccupHill" : "## Promise " + p + ":");
        int to = doc.indexOf(p == PROMISES ? "## Not promised" : "## Promise " + (p + 1) + ":");
        return doc.substring(from, to);
    }

    private static void cover(BitSet covered, String text, String part) {
        for (int at = text.indexOf(part); at >= 0; at = text.indexOf(part, at + 1)) {
            covered.set(at, at + part.length());
        }
    }

    private static void namesStandInTheDocument(String doc, List<Method> tests) {
        Set<String> seen = new HashSet<>();
        for (Method m : tests) {
            int p = of(m).promise();
            boolean there = p >= 1 && p <= PROMISES
                && (section(doc, p).contains(of(m).says()) || section(doc, 0).contains(of(m).says()));
            if (!there) {
                fail("promise " + p + " doesn't say \"" + of(m).says() + "\": " + m.getName());
            }
            if (!seen.add(p + " " + of(m).says())) {
                fail("promise " + p + " has two tests of \"" + of(m).says() + "\": " + m.getName());
            }
        }
    }

    private static void eachBoundHasATest(String doc, List<Method> tests) {
        for (int p = 0; p <= PROMISES; p++) {
            String text = section(doc, p);
            BitSet covered = new BitSet();
            Matcher label = LABEL.matcher(text);
            while (label.find()) {
                covered.set(label.start(), label.end());
            }
            for (Method m : tests) {
                if (p == 0 || of(m).promise() == p) {
                    cover(covered, text, of(m).says());
                }
            }
            if (p == 0) {
                covered.set(0, text.indexOf("## Terms"));
            }
            Matcher mark = MARK.matcher(text);
            while (mark.find()) {
                if (covered.nextClearBit(mark.start()) < mark.end()) {
                    int from = Math.max(0, mark.start() - 40);
                    fail("section " + p + ": no test of \"" + mark.group() + "\" in \".."
                        + text.substring(from, Math.min(text.length(), mark.end() + 40)).replace('\n', ' ') + "..\"");
                }
            }
        }
    }

    public static void main(String[] args) throws Exception {
        List<Method> tests = tests();
        for (Method m : tests) {
            run(m);
        }
        String doc = Files.readString(Path.of(args[0]));
        namesStandInTheDocument(doc, tests);
        eachBoundHasATest(doc, tests);
        long promises = tests.stream().mapToInt(m -> of(m).promise()).distinct().count();
        if (promises != PROMISES) {
            fail("there are tests of " + promises + " promises alone");
        }
        System.out.println(tests.size() + " sentences, " + checks + " checks, " + failed + " failed");
        if (failed != 0) {
            System.exit(1);
        }
    }
}
