import java.lang.reflect.Method;
import java.util.ArrayList;
import java.util.Arrays;
import java.util.Comparator;
import java.util.List;
import java.util.Random;

/** Runs of random calls on HiccupHill and on HillModel, each answer held against the other's. */
public final class ModelTest {
    private static final String[] NAMES = {"who", "whom", "far", "loud", "deaf", "voice", "wind"};
    private static final String SIGNS = ";:+-*()[]=<>";
    private static final String[] WORDS = {"hill", "person", "names", "at", "sure", "gaps", "pitch", "answers", "if",
        "then", "else", "end", "and", "or", "not", "wind", "loud", "deaf", "voice", "who", "whom", "far", "gap",
        "minute", "shy", "personx", "perso", "0", "1", "9", "10", "64", "99", "100", "999", "1000", "00001", "007",
        "#", "A", "\t", "\u00e9", "{", "&"};

    private final Random random;
    private boolean inAnswers;
    private int people;
    private int cells;
    private int deepest = 6;

    private ModelTest(long seed) {
        random = new Random(seed);
    }

    private int below(int n) {
        return random.nextInt(n);
    }

    private boolean oneIn(int n) {
        return random.nextInt(n) == 0;
    }

    // ---- texts

    private void sum(List<String> out, int depth) {
        term(out, depth);
        while (oneIn(3)) {
            out.add(oneIn(2) ? "+" : "-");
            term(out, depth);
        }
    }

    private void term(List<String> out, int depth) {
        atom(out, depth);
        while (oneIn(5)) {
            out.add("*");
            atom(out, depth);
        }
    }

    private void atom(List<String> out, int depth) {
        int kind = below(depth < deepest ? 12 : 9);
        if (kind < 3) {
            out.add("" + (oneIn(8) ? below(1000) : below(5)));
        } else if (kind < 8 || kind == 8 && !inAnswers) {
            out.add(NAMES[below(NAMES.length)]);
        } else if (kind == 8) {
            out.add(oneIn(2) ? "gap" : "minute");
        } else if (kind == 9) {
            out.add("(");
            sum(out, depth + 1);
            out.add(")");
        } else {
            out.add("if");
            truth(out, depth + 1);
            out.add("then");
            sum(out, depth + 1);
            out.add("else");
            sum(out, depth + 1);
            out.add("end");
        }
    }

    private void truth(List<String> out, int depth) {
        both(out, depth);
        while (oneIn(5)) {
            out.add("or");
            both(out, depth);
        }
    }

    private void both(List<String> out, int depth) {
        unit(out, depth);
        while (oneIn(5)) {
            out.add("and");
            unit(out, depth);
        }
    }

    private void unit(List<String> out, int depth) {
        int kind = below(depth < deepest ? 8 : 6);
        if (kind == 6) {
            out.add("not");
            unit(out, depth + 1);
        } else if (kind == 7) {
            out.add("[");
            truth(out, depth + 1);
            out.add("]");
        } else {
            sum(out, depth);
            out.add("" + "=<>".charAt(below(3)));
            sum(out, depth);
        }
    }

    private void number(List<String> out, int n) {
        out.add("" + below(Math.max(1, n)));
    }

    private void law(List<String> out, String name) {
        out.add(name);
        out.add(":");
        inAnswers = name.equals("answers");
        if (inAnswers && oneIn(3)) {
            out.addAll(List.of("0", "=", "0"));
        } else if (inAnswers && oneIn(2)) {
            out.addAll(List.of(oneIn(2) ? "gap" : "minute", "<", "" + below(oneIn(2) ? 6 : 100)));
        } else if (inAnswers) {
            truth(out, below(4) - deepest / 7 * 4);
        } else if (name.equals("gaps") && oneIn(4)) {
            out.add("1");
        } else {
            sum(out, below(4) - deepest / 7 * 4);
        }
        out.add(";");
    }

    private void personLine(List<String> out) {
        out.add("person");
        number(out, cells);
        while (oneIn(2)) {
            out.add(NAMES[3 + below(3)]);
            number(out, 10);
        }
        out.add(";");
        people++;
    }

    private void namesLine(List<String> out) {
        int who = below(people);
        int whom = (who + 1 + below(people - 1)) % people;
        out.addAll(List.of("names", "" + who, "" + whom, "at", "" + (oneIn(2) ? below(100) : below(30))));
        while (oneIn(3)) {
            out.add("sure");
            number(out, 11);
        }
        out.add(";");
    }

    private List<String> tokens() {
        List<String> out = new ArrayList<>();
        int rows = 1 + below(oneIn(3) ? 8 : 3);
        int columns = 1 + below(oneIn(3) ? 8 : 3);
        cells = rows * columns;
        people = 0;
        int namings = 0;
        out.addAll(List.of("hill", "" + rows, "" + columns, ";"));
        int first = oneIn(9) ? below(3) : 2 + below(4);
        int most = oneIn(9) ? 1 : 0;
        deepest = oneIn(4) ? 8 : 6;
        for (int i = 0; i < first; i++) {
            personLine(out);
        }
        int lines = below(16) + 20 * most;
        for (int i = 0; i < lines; i++) {
            switch (below(10)) {
                case 0: out.add("wind"); number(out, 10); out.add(";"); break;
                case 1: law(out, "gaps"); break;
                case 2: law(out, "pitch"); break;
                case 3: law(out, "answers"); break;
                case 4: if (people < 6 + most) { personLine(out); } break;
                default: if (people > 1 && namings < 8 + most) { namesLine(out); namings++; }
            }
        }
        return out;
    }

    private void spoil(List<String> out) {
        for (int n = 1 + below(2); n > 0; n--) {
            int at = below(out.size());
            switch (below(8)) {
                case 0: out.remove(at); break;
                case 1: out.set(at, any()); break;
                case 2: out.add(at, any()); break;
                case 3: out.add(at, out.get(below(out.size()))); break;
                default:
                    while (at < out.size() - 1 && !Character.isDigit(out.get(at).charAt(0))) {
                        at++;
                    }
                    out.set(at, "" + below(oneIn(2) ? 12 : 120));
            }
            if (out.isEmpty()) {
                out.add("hill");
            }
        }
    }

    private String any() {
        return oneIn(2) ? WORDS[below(WORDS.length)] : "" + SIGNS.charAt(below(SIGNS.length()));
    }

    private String text() {
        List<String> tokens = tokens();
        if (oneIn(2)) {
            spoil(tokens);
        }
        StringBuilder b = new StringBuilder();
        boolean tight = oneIn(2);
        for (String t : tokens) {
            boolean apart = b.length() == 0 || !alike(b.charAt(b.length() - 1), t.charAt(0));
            if (!(tight && apart)) {
                b.append(oneIn(9) ? "\n  " : " ");
            }
            b.append(t);
        }
        if (oneIn(6)) {
            b.append(oneIn(2) ? " " : "\n\n");
        }
        return b.toString();
    }

    private static boolean alike(char a, char b) {
        return Character.isDigit(a) && Character.isDigit(b) || Character.isLetter(a) && Character.isLetter(b);
    }

    // ---- runs

    private static final class Run {
        final HiccupHill hill = new HiccupHill();
        final HillModel model = new HillModel();
        final List<String> calls = new ArrayList<>();
        boolean same = true;

        long call(Method m, Object... args) throws Exception {
            Method its = HillModel.class.getDeclaredMethod(m.getName(), m.getParameterTypes());
            long got = ((Number) m.invoke(hill, args)).longValue();
            long want = ((Number) its.invoke(model, args)).longValue();
            calls.add(m.getName() + Arrays.toString(args) + " = " + got);
            if (got != want) {
                same = false;
                System.out.println("wrong: " + calls.get(calls.size() - 1) + ", the model answers " + want);
            }
            return got;
        }
    }

    private static Method method(String name) {
        for (Method m : HiccupHill.class.getDeclaredMethods()) {
            if (m.getName().equals(name) && java.lang.reflect.Modifier.isPublic(m.getModifiers())) {
                return m;
            }
        }
        throw new IllegalStateException(name);
    }

    private void feedText(Run run, String text) throws Exception {
        StringBuilder padded = new StringBuilder(text.length() > 900 ? text.substring(0, 900) : text);
        int n = padded.length();
        while (padded.length() % 20 != 0) {
            padded.append(oneIn(2) ? ' ' : 'z');
        }
        run.call(method("hill"), 0);
        for (int i = 0; i < padded.length(); i += 20) {
            Object[] ints = new Object[5];
            for (int k = 0; k < 5; k++) {
                int v = 0;
                for (int j = 0; j < 4; j++) {
                    v = v << 8 | padded.charAt(i + 4 * k + j) & 255;
                }
                ints[k] = v;
            }
            run.call(method("feed"), ints);
        }
        if (oneIn(9)) {
            n = below(n + 1);
        }
        run.call(method("hill"), n);
        run.call(method("fault"), 0);
        run.call(method("fault"), 1);
    }

    private int small(int bound) {
        return oneIn(12) ? List.of(-1, bound, bound + 1, -2, Integer.MIN_VALUE, Integer.MAX_VALUE).get(below(6))
            : below(Math.max(1, bound));
    }

    private long deedNumber(Run run) {
        int p = Math.max(1, run.model.count(2));
        switch (below(9)) {
            case 0: return 8000 + below(9);
            case 1: return 8100 + 100 * below(p + 1) + below(run.model.count(0) * run.model.count(1) + 1);
            case 2: return 9000 + below(11);
            case 3: return oneIn(3) ? random.nextLong() : below(10000);
            default: return 1000 * below(p) + 100 * below(p) + below(100);
        }
    }

    /** A tray of numbers that mean something to what is asked of it next. */
    private void lay(Run run, int tray, String use) throws Exception {
        int p = Math.max(1, run.model.count(2));
        int n = use.equals("deeds") ? below(8) : oneIn(12) ? below(12) : 1 + below(2);
        run.call(method("numbers"), tray, oneIn(6) ? below(4) : 1 + below(3), n);
        for (int i = 0; i < n; i++) {
            long v;
            if (use.equals("deeds")) {
                v = deedNumber(run);
            } else if (use.equals("heard")) {
                int q = below(p);
                v = 100L * q + (oneIn(9) ? below(25) : Math.max(1, run.model.between((q + 1) % p, q, 0)));
            } else {
                v = oneIn(9) ? below(110) : Math.max(0, run.model.minute(below(p), i));
            }
            run.call(method("write"), tray, i, oneIn(30) ? random.nextLong() : v);
        }
    }

    private Object[] arguments(Run run, Method m) {
        int p = run.model.count(2);
        int cells = run.model.count(0) * run.model.count(1);
        int tray = small(4);
        switch (m.getName()) {
            case "hill": return new Object[] {small(3)};
            case "feed": return new Object[] {random.nextInt(), 1, 2, 3, 4};
            case "fault": return new Object[] {small(2)};
            case "person": return new Object[] {small(p), small(4)};
            case "naming": return new Object[] {small(run.model.count(3)), small(5)};
            case "between": return new Object[] {small(p), small(p), small(3)};
            case "tell": return new Object[] {small(p), small(p), small(oneIn(2) ? 100 : 30)};
            case "drop": return new Object[] {small(run.model.count(3))};
            case "move": return new Object[] {small(p), small(cells)};
            case "wind": return new Object[] {small(10)};
            case "undo": return new Object[] {oneIn(3) ? small(12) : 1};
            case "judge": return new Object[] {tray, small(4)};
            case "perform": return new Object[] {tray};
            case "week": return new Object[] {random.nextInt(), 1 + small(oneIn(2) ? 40 : 4)};
            case "hiccups": return new Object[] {small(p + 1) - 1};
            case "hiccup": return new Object[] {small(run.model.hiccups(-1)), small(5)};
            case "minute": return new Object[] {small(p), small(8)};
            case "crowd": return new Object[] {small(100)};
            case "answers": return new Object[] {small(p)};
            case "who": return new Object[] {small(p), 1 + small(oneIn(2) ? 20 : 4), small(oneIn(2) ? 10 : 2)};
            case "stops": return new Object[] {small(p), small(100)};
            case "stopBy": return new Object[] {small(p), small(100), small(oneIn(2) ? 3 : 300)};
            case "quiet": return new Object[] {small(p), small(2)};
            case "atOnce": return new Object[] {small(p), small(1 << p)};
            case "silence": return new Object[] {small(p), small(3)};
            case "heard": case "attempt": case "winds": case "lists": return new Object[] {tray, small(p)};
            case "heardAt": return new Object[] {tray, small(p), small(8)};
            case "chance": case "mean": return new Object[] {small(p), small(2)};
            case "numbers": return new Object[] {tray, small(4), small(41)};
            case "write": return new Object[] {tray, small(8), random.nextLong() >> below(64)};
            case "image": case "restore": return new Object[] {small(2)};
            case "count": return new Object[] {small(8)};
            default: return new Object[0];
        }
    }

    private static boolean isDear(String name) {
        return List.of("stops", "stopBy", "silence", "chance", "mean", "famous", "quiet").contains(name);
    }

    /** Hills in which one or two namings more can silence one. */
    private String silenceText() {
        StringBuilder b = new StringBuilder("hill " + (1 + below(3)) + " " + (1 + below(3)) + " ;");
        people = 2 + below(3);
        for (int p = 0; p < people; p++) {
            b.append("person 0 loud ").append(below(5)).append(" deaf ").append(below(5)).append(" voice ")
                .append(below(5)).append(';');
        }
        int latest = 1 + below(oneIn(2) ? 10 : 30);
        for (int k = below(4); k >= 0; k--) {
            int who = oneIn(2) ? 0 : below(people);
            int whom = (who + 1 + below(people - 1)) % people;
            b.append("names ").append(who).append(' ').append(whom).append(" at ").append(below(latest)).append(';');
        }
        b.append(oneIn(2) ? "gaps : deaf + loud - 3 + wind;" : "gaps : 1 + who * whom;");
        b.append(oneIn(2) ? "" : oneIn(2) ? "answers : voice < 3;" : "answers : minute < 9;");
        return b.toString();
    }

    private boolean silenceRun() throws Exception {
        Run run = new Run();
        for (int t = 0; t < 4 && run.same; t++) {
            feedText(run, silenceText());
            for (int i = 0; i < 3; i++) {
                run.call(method("silence"), 0, i);
            }
            run.call(method("stops"), 0, below(20));
            run.call(method("hiccups"), -1);
            run.call(method("wind"), below(10));
        }
        if (!run.same) {
            System.out.println(String.join("\n", run.calls));
        }
        return run.same;
    }

    private boolean run(Method[] all, int length, int texts) throws Exception {
        Run run = new Run();
        boolean dense = false;
        for (int t = 0; t < texts && run.same; t++) {
            for (int tries = 0; tries < 20 && (tries == 0 || run.model.count(2) == 0); tries++) {
                feedText(run, text());
            }
            for (int c = 0; c < length && run.same; c++) {
                Method m = all[below(all.length)];
                String name = m.getName();
                dense = run.model.hiccups(-1) > 60;
                if (name.equals("hill") && !oneIn(6) || name.equals("restore") && !oneIn(3)
                    || isDear(name) && !oneIn(dense ? 20 : 3)) {
                    continue;
                }
                Object[] args = arguments(run, m);
                if (List.of("judge", "perform").contains(name) && !oneIn(4)) {
                    lay(run, Math.abs((Integer) args[0] % 4), "deeds");
                } else if (List.of("heard", "heardAt", "attempt").contains(name) && !oneIn(4)) {
                    lay(run, Math.abs((Integer) args[0] % 4), "heard");
                } else if (name.equals("winds") && !oneIn(4)) {
                    lay(run, Math.abs((Integer) args[0] % 4), "minutes");
                }
                run.call(m, args);
            }
        }
        if (!run.same) {
            System.out.println(String.join("\n", run.calls));
        }
        return run.same;
    }

    public static void main(String[] args) throws Exception {
        long first = args.length > 0 ? Long.parseLong(args[0]) : 1;
        int runs = args.length > 1 ? Integer.parseInt(args[1]) : 1500;
        Method[] all = Arrays.stream(HiccupHill.class.getDeclaredMethods())
            .filter(m -> java.lang.reflect.Modifier.isPublic(m.getModifiers()))
            .sorted(Comparator.comparing(Method::getName)).toArray(Method[]::new);
        int wrong = 0;
        for (long seed = first; seed < first + runs && wrong < 3; seed++) {
            ModelTest test = new ModelTest(seed);
            if (!(seed % 4 == 0 ? test.silenceRun() : test.run(all, 60, 3))) {
                System.out.println("seed " + seed);
                wrong++;
            }
        }
        System.out.println(wrong == 0 ? runs + " random runs are as the model's" : "random runs are wrong");
        if (wrong != 0) {
            System.exit(1);
        }
    }
}
