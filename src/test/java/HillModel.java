import java.math.BigInteger;
import java.util.ArrayDeque;
import java.util.ArrayList;
import java.util.Arrays;
import java.util.Collections;
import java.util.Deque;
import java.util.HashSet;
import java.util.List;
import java.util.Map;
import java.util.HashMap;
import java.util.Set;
import java.util.TreeSet;

/**
 * The document once more, in the plainest and slowest form, written apart from HiccupHill: ModelTest holds the two
 * against one another. Nothing is kept from call to call but what the document says is kept.
 */
final class HillModel {
    record Naming(int who, int whom, int minute, int sure) { }

    record Deeds(List<Naming> namings, List<Integer> cells, int wind) { }

    record Person(int loud, int deaf, int voice) { }

    record Hiccup(int who, int whom, int minute, int gap, int pitch) { }

    interface Tree { long in(Map<String, Integer> names); }

    static final class Fault extends RuntimeException {
        final int kind;
        final int place;

        Fault(int kind, int place) {
            super(kind + " at " + place);
            this.kind = kind;
            this.place = place;
        }
    }

    record Text(int rows, int columns, int lines, List<Person> people, Tree gaps, Tree pitch, Tree answers) { }

    record Image(Text text, Deeds deeds) { }

    static final class Tray {
        int sort;
        long[] v;
    }

    private final List<Byte> tape = new ArrayList<>();
    private Text text = new Text(1, 1, 0, List.of(), null, null, null);
    private Deeds now = new Deeds(List.of(), List.of(), 0);
    private final Deque<Deeds> undo = new ArrayDeque<>();
    private final Tray[] trays = new Tray[4];
    private final Image[] images = new Image[2];
    private int fault = 0;
    private int place = -1;

    // ---- reading

    private static final class Parser {
        final String s;
        int i = 0;
        String tok;
        int where;
        int rows, columns, lines;
        final List<Person> people = new ArrayList<>();
        final List<Integer> cells = new ArrayList<>();
        final List<Naming> namings = new ArrayList<>();
        int wind = 0;
        Tree gaps, pitch, answers;
        boolean inAnswers;
        int nested = 0;

        Parser(String s) {
            this.s = s;
        }

        /** The next token; "" is the end, "?" one that no token begins like. */
        void next() {
            while (i < s.length() && (s.charAt(i) == ' ' || s.charAt(i) == '\n')) {
                i++;
            }
            where = i;
            if (i >= s.length()) {
                tok = "";
                where = s.length();
                return;
            }
            String rest = s.substring(i);
            String word = rest.replaceFirst("(?s)^([a-z]*).*$", "$1");
            String digits = rest.replaceFirst("(?s)^([0-9]*).*$", "$1");
            if (!word.isEmpty()) {
                tok = word;
            } else if (!digits.isEmpty()) {
                tok = digits.length() > 3 ? "?" : digits;
            } else {
                tok = ";:+-*()[]=<>".indexOf(rest.charAt(0)) >= 0 ? rest.substring(0, 1) : "?";
            }
            i += tok.length();
        }

        Fault cant() {
            return new Fault(tok.equals("?") ? 1 : 2, where);
        }

        void want(String t) {
            if (!tok.equals(t)) {
                throw cant();
            }
            next();
        }

        boolean isNumber() {
            return !tok.isEmpty() && Character.isDigit(tok.charAt(0));
        }

        int number(Set<Integer> allowed) {
            if (!isNumber()) {
                throw cant();
            }
            int v = Integer.parseInt(tok);
            if (!allowed.contains(v)) {
                throw new Fault(3, where);
            }
            next();
            return v;
        }

        static Set<Integer> range(int a, int b) {
            Set<Integer> all = new HashSet<>();
            for (int v = a; v <= b; v++) {
                all.add(v);
            }
            return all;
        }

        void all() {
            next();
            want("hill");
            rows = number(range(1, 8));
            columns = number(range(1, 8));
            want(";");
            lines = 1;
            while (!tok.equals("")) {
                line();
                want(";");
                lines++;
            }
        }

        void line() {
            String t = tok;
            if (t.equals("person")) {
                if (people.size() == 6) {
                    throw new Fault(4, where);
                }
                next();
                int cell = number(range(0, rows * columns - 1));
                int[] flags = new int[3];
                while (List.of("loud", "deaf", "voice").contains(tok)) {
                    int f = List.of("loud", "deaf", "voice").indexOf(tok);
                    next();
                    flags[f] = number(range(0, 9));
                }
                people.add(new Person(flags[0], flags[1], flags[2]));
                cells.add(cell);
            } else if (t.equals("names")) {
                if (namings.size() == 8) {
                    throw new Fault(4, where);
                }
                next();
                int who = number(range(0, people.size() - 1));
                Set<Integer> others = range(0, people.size() - 1);
                others.remove(who);
                int whom = number(others);
                want("at");
                int minute = number(range(0, 99));
                int sure = 10;
                while (tok.equals("sure")) {
                    next();
                    sure = number(range(0, 10));
                }
                namings.add(new Naming(who, whom, minute, sure));
            } else if (t.equals("wind")) {
                next();
                wind = number(range(0, 9));
            } else if (t.equals("gaps") || t.equals("pitch") || t.equals("answers")) {
                next();
                want(":");
                inAnswers = t.equals("answers");
                Tree law = inAnswers ? truth() : sum();
                if (t.equals("gaps")) {
                    gaps = law;
                } else if (t.equals("pitch")) {
                    pitch = law;
                } else {
                    answers = law;
                }
            } else {
                throw cant();
            }
        }

        void enter() {
            if (nested == 6) {
                throw new Fault(4, where);
            }
            nested++;
            next();
        }

        static long kept(long v) {
            return v > 1000000 ? 1000000 : v < -1000000 ? -1000000 : v;
        }

        Tree sum() {
            Tree a = term();
            while (tok.equals("+") || tok.equals("-")) {
                boolean plus = tok.equals("+");
                next();
                Tree x = a;
                Tree y = term();
                a = n -> kept(plus ? x.in(n) + y.in(n) : x.in(n) - y.in(n));
            }
            return a;
        }

        Tree term() {
            Tree a = atom();
            while (tok.equals("*")) {
                next();
                Tree x = a;
                Tree y = atom();
                a = n -> kept(x.in(n) * y.in(n));
            }
            return a;
        }

        Tree atom() {
            if (isNumber()) {
                long v = Integer.parseInt(tok);
                next();
                return n -> v;
            }
            if (tok.equals("(")) {
                enter();
                Tree a = sum();
                want(")");
                nested--;
                return a;
            }
            if (tok.equals("if")) {
                enter();
                Tree t = truth();
                want("then");
                Tree a = sum();
                want("else");
                Tree b = sum();
                want("end");
                nested--;
                return n -> t.in(n) == 1 ? a.in(n) : b.in(n);
            }
            List<String> known = List.of("who", "whom", "far", "loud", "deaf", "voice", "wind");
            if (known.contains(tok) || inAnswers && List.of("gap", "minute").contains(tok)) {
                String name = tok;
                next();
                return n -> n.get(name);
            }
            throw cant();
        }

        Tree truth() {
            Tree a = both();
            while (tok.equals("or")) {
                next();
                Tree x = a;
                Tree y = both();
                a = n -> x.in(n) == 1 || y.in(n) == 1 ? 1 : 0;
            }
            return a;
        }

        Tree both() {
            Tree a = unit();
            while (tok.equals("and")) {
                next();
                Tree x = a;
                Tree y = unit();
                a = n -> x.in(n) == 1 && y.in(n) == 1 ? 1 : 0;
            }
            return a;
        }

        Tree unit() {
            if (tok.equals("not")) {
                enter();
                Tree a = unit();
                nested--;
                return n -> 1 - a.in(n);
            }
            if (tok.equals("[")) {
                enter();
                Tree a = truth();
                want("]");
                nested--;
                return a;
            }
            Tree a = sum();
            String op = tok;
            if (!List.of("=", "<", ">").contains(op)) {
                throw cant();
            }
            next();
            Tree b = sum();
            return n -> {
                int c = Long.compare(a.in(n), b.in(n));
                return (op.equals("=") ? c == 0 : op.equals("<") ? c < 0 : c > 0) ? 1 : 0;
            };
        }
    }

    int feed(int a, int b, int c, int d, int e) {
        if (tape.size() + 20 > 900) {
            return -5;
        }
        for (int v : List.of(a, b, c, d, e)) {
            tape.add((byte) (v >> 24));
            tape.add((byte) (v >> 16));
            tape.add((byte) (v >> 8));
            tape.add((byte) v);
        }
        return tape.size();
    }

    int hill(int n) {
        if (n < 0 || n > tape.size()) {
            return -3;
        }
        StringBuilder b = new StringBuilder();
        for (int i = 0; i < n; i++) {
            b.append((char) (tape.get(i) & 255));
        }
        tape.clear();
        Parser p = new Parser(b.toString());
        try {
            p.all();
        } catch (Fault f) {
            fault = f.kind;
            place = f.place;
            return -30 - f.kind;
        }
        fault = 0;
        place = -1;
        text = new Text(p.rows, p.columns, p.lines, List.copyOf(p.people), p.gaps, p.pitch, p.answers);
        now = new Deeds(List.copyOf(p.namings), List.copyOf(p.cells), p.wind);
        undo.clear();
        return text.lines;
    }

    int fault(int what) {
        return what == 0 ? fault : what == 1 ? place : -1;
    }

    // ---- the day

    private int people() {
        return text.people.size();
    }

    private boolean is(int p) {
        return p >= 0 && p < people();
    }

    private int far(Deeds d, int a, int b) {
        int x = d.cells.get(a);
        int y = d.cells.get(b);
        int rows = Math.abs(x / text.columns - y / text.columns);
        return rows + Math.abs(x % text.columns - y % text.columns);
    }

    private Map<String, Integer> names(Deeds d, int who, int whom) {
        Map<String, Integer> n = new HashMap<>();
        n.put("who", who);
        n.put("whom", whom);
        n.put("far", far(d, who, whom));
        n.put("loud", text.people.get(who).loud);
        n.put("voice", text.people.get(who).voice);
        n.put("deaf", text.people.get(whom).deaf);
        n.put("wind", d.wind);
        return n;
    }

    private int gap(Deeds d, int who, int whom) {
        long g = text.gaps == null ? far(d, who, whom) + 1 : text.gaps.in(names(d, who, whom));
        return (int) Math.min(20, Math.max(1, g));
    }

    private int pitch(Deeds d, int who, int whom) {
        long g = text.pitch == null ? text.people.get(who).voice : text.pitch.in(names(d, who, whom));
        return (int) Math.min(9, Math.max(0, g));
    }

    private boolean holds(Deeds d, Hiccup h) {
        if (text.answers == null) {
            return false;
        }
        Map<String, Integer> n = names(d, h.who, h.whom);
        n.put("gap", h.gap);
        n.put("minute", h.minute);
        return text.answers.in(n) == 1;
    }

    private final class Day {
        final List<Hiccup> hiccups = new ArrayList<>();
        final Set<Integer> said = new HashSet<>();
        final List<Integer> answers = new ArrayList<>();
        final List<Hiccup> coming = new ArrayList<>();
        final Deeds d;

        Day(Deeds d) {
            this.d = d;
            for (int t = 0; t < 100; t++) {
                for (Hiccup h : coming) {
                    if (h.minute == t) {
                        hiccups.add(h);
                    }
                }
                for (int k = 0; k < d.namings.size(); k++) {
                    Naming n = d.namings.get(k);
                    if (n.minute == t && !has(n.who, t)) {
                        said.add(k);
                        say(n.who, n.whom, t);
                    }
                }
                for (Hiccup h : List.copyOf(hiccups)) {
                    if (h.minute == t - 1 && holds(d, h) && !has(h.whom, t)) {
                        answers.add(h.whom);
                        say(h.whom, h.who, t);
                    }
                }
            }
        }

        void say(int who, int whom, int t) {
            int g = gap(d, who, whom);
            coming.add(new Hiccup(who, whom, t + g, g, pitch(d, who, whom)));
        }

        boolean has(int p, int t) {
            return minutes(p).contains(t);
        }

        List<Integer> minutes(int p) {
            List<Integer> all = new ArrayList<>();
            for (Hiccup h : hiccups) {
                if (h.whom == p) {
                    all.add(h.minute);
                }
            }
            return all;
        }

        int nobody() {
            int bits = 0;
            for (int p = 0; p < people(); p++) {
                bits |= minutes(p).isEmpty() ? 1 << p : 0;
            }
            return bits;
        }
    }

    private Deeds with(Deeds d, Naming... more) {
        List<Naming> all = new ArrayList<>(d.namings);
        Collections.addAll(all, more);
        return new Deeds(all, d.cells, d.wind);
    }

    private Deeds moved(Deeds d, int p, int cell) {
        List<Integer> cells = new ArrayList<>(d.cells);
        cells.set(p, cell);
        return new Deeds(d.namings, cells, d.wind);
    }

    int person(int p, int what) {
        if (!is(p) || what < 0 || what > 3) {
            return -2;
        }
        Person q = text.people.get(p);
        return List.of(now.cells.get(p), q.loud, q.deaf, q.voice).get(what);
    }

    int naming(int k, int what) {
        if (k < 0 || k >= now.namings.size() || what < 0 || what > 4) {
            return -2;
        }
        Naming n = now.namings.get(k);
        int said = new Day(now).said.contains(k) ? 1 : 0;
        return List.of(n.who, n.whom, n.minute, n.sure, said).get(what);
    }

    int between(int a, int b, int what) {
        if (!is(a) || !is(b) || a == b || what < 0 || what > 2) {
            return -2;
        }
        return List.of(gap(now, a, b), pitch(now, a, b), far(now, a, b)).get(what);
    }

    // ---- deeds

    private int why;

    private Deeds deed(Deeds d, long v) {
        why = 0;
        if (v >= 0 && v <= 7999) {
            return told(d, (int) (v / 1000), (int) (v % 1000 / 100), (int) (v % 100));
        }
        if (v >= 8000 && v <= 8009) {
            return dropped(d, (int) (v - 8000));
        }
        if (v >= 8100 && v <= 8999) {
            return movedTo(d, (int) ((v - 8100) / 100), (int) (v % 100));
        }
        if (v >= 9000 && v <= 9009) {
            return winded(d, (int) (v - 9000));
        }
        why = 1;
        return d;
    }

    private Deeds told(Deeds d, int who, int whom, int minute) {
        why = !is(who) || !is(whom) || who == whom || minute < 0 || minute > 99 ? 1 : d.namings.size() == 8 ? 2 : 0;
        return why != 0 ? d : with(d, new Naming(who, whom, minute, 10));
    }

    private Deeds dropped(Deeds d, int k) {
        why = k < 0 || k >= d.namings.size() ? 1 : 0;
        if (why != 0) {
            return d;
        }
        List<Naming> all = new ArrayList<>(d.namings);
        all.remove(k);
        return new Deeds(all, d.cells, d.wind);
    }

    private Deeds movedTo(Deeds d, int p, int cell) {
        why = !is(p) || cell < 0 || cell >= text.rows * text.columns ? 1 : 0;
        return why != 0 ? d : moved(d, p, cell);
    }

    private Deeds winded(Deeds d, int w) {
        why = w < 0 || w > 9 ? 1 : 0;
        return why != 0 ? d : new Deeds(d.namings, d.cells, w);
    }

    private void accept(Deeds d) {
        undo.push(now);
        if (undo.size() > 10) {
            undo.removeLast();
        }
        now = d;
    }

    private int take(Deeds d, int answer) {
        if (why != 0) {
            return -10 - why;
        }
        accept(d);
        return answer;
    }

    int tell(int who, int whom, int minute) {
        return take(told(now, who, whom, minute), now.namings.size() + 1);
    }

    int drop(int k) {
        return take(dropped(now, k), now.namings.size() - 1);
    }

    int move(int p, int cell) {
        return take(movedTo(now, p, cell), is(p) ? now.cells.get(p) : 0);
    }

    int wind(int n) {
        return take(winded(now, n), now.wind);
    }

    int undo(int n) {
        if (n < 1 || n > 10 || n > undo.size()) {
            return -3;
        }
        for (int i = 0; i < n; i++) {
            now = undo.pop();
        }
        return undo.size();
    }

    private boolean isTray(int t) {
        return t >= 0 && t < 4;
    }

    int judge(int t, int what) {
        if (!isTray(t) || what < 0 || what > 3) {
            return -2;
        }
        if (trays[t] == null) {
            return -6;
        }
        Deeds d = now;
        int first = -1;
        int reason = 0;
        for (int i = 0; i < trays[t].v.length && first < 0; i++) {
            d = deed(d, trays[t].v[i]);
            if (why != 0) {
                first = i;
                reason = why;
            }
        }
        Day day = new Day(d);
        return List.of(first, reason, day.hiccups.size(), day.nobody()).get(what);
    }

    int perform(int t) {
        if (!isTray(t)) {
            return -2;
        }
        if (trays[t] == null) {
            return -6;
        }
        Deeds d = now;
        int done = 0;
        for (long v : trays[t].v) {
            d = deed(d, v);
            if (why != 0) {
                break;
            }
            done++;
        }
        if (done > 0) {
            accept(d);
        }
        return done;
    }

    private int x;

    private int draw() {
        x = 1103515245 * x + 12345;
        return x >>> 16;
    }

    int week(int seed, int times) {
        if (times < 1 || times > 40) {
            return -3;
        }
        x = seed;
        Deeds d = now;
        int done = 0;
        for (int i = 0; i < times; i++) {
            int kind = draw() % 5;
            if (kind <= 1) {
                int a = draw() % 6;
                int b = draw() % 6;
                d = told(d, a, b, draw() % 100);
            } else if (kind == 2) {
                d = dropped(d, draw() % 8);
            } else if (kind == 3) {
                int a = draw() % 6;
                d = movedTo(d, a, draw() % 64);
            } else {
                d = winded(d, draw() % 10);
            }
            done += why == 0 ? 1 : 0;
        }
        if (done > 0) {
            accept(d);
        }
        return done;
    }

    // ---- asked of the day

    int hiccups(int p) {
        if (p == -1) {
            return new Day(now).hiccups.size();
        }
        return is(p) ? new Day(now).minutes(p).size() : -2;
    }

    int hiccup(int k, int what) {
        if (what < 0 || what > 4) {
            return -2;
        }
        if (k < 0) {
            return -3;
        }
        Day day = new Day(now);
        if (k >= day.hiccups.size()) {
            return -1;
        }
        Hiccup h = day.hiccups.get(k);
        return List.of(h.whom, h.minute, h.who, h.pitch, h.gap).get(what);
    }

    int minute(int p, int i) {
        if (!is(p)) {
            return -2;
        }
        if (i < 0) {
            return -3;
        }
        List<Integer> all = new Day(now).minutes(p);
        return i < all.size() ? all.get(i) : -1;
    }

    private static int crowd(Day day, int t) {
        return (int) day.hiccups.stream().filter(h -> h.minute == t).count();
    }

    int crowd(int t) {
        return t < 0 || t > 99 ? -3 : crowd(new Day(now), t);
    }

    int worst() {
        Day day = new Day(now);
        int best = -1;
        for (int t = 99; t >= 0; t--) {
            if (crowd(day, t) > 0 && (best < 0 || crowd(day, t) >= crowd(day, best))) {
                best = t;
            }
        }
        return best;
    }

    int answers(int p) {
        return is(p) ? Collections.frequency(new Day(now).answers, p) : -2;
    }

    int nobody() {
        return new Day(now).nobody();
    }

    int who(int p, int gap, int pitch) {
        if (!is(p)) {
            return -2;
        }
        if (gap < 1 || gap > 20 || pitch < 0 || pitch > 9) {
            return -3;
        }
        int bits = 0;
        for (int q = 0; q < people(); q++) {
            if (q != p && gap(now, q, p) == gap && pitch(now, q, p) == pitch) {
                bits |= 1 << q;
            }
        }
        return bits;
    }

    private List<Integer> stopList(int p, int minute) {
        List<Integer> all = new ArrayList<>();
        for (int code = 0; code < 10000; code++) {
            int q = code % 100;
            if (is(q) && q != p && new Day(with(now, new Naming(q, p, code / 100, 10))).has(p, minute)) {
                all.add(code);
            }
        }
        return all;
    }

    int stops(int p, int minute) {
        return !is(p) ? -2 : minute < 0 || minute > 99 ? -3 : stopList(p, minute).size();
    }

    int stopBy(int p, int minute, int i) {
        if (!is(p)) {
            return -2;
        }
        if (minute < 0 || minute > 99 || i < 0) {
            return -3;
        }
        List<Integer> all = stopList(p, minute);
        return i < all.size() ? all.get(i) : -1;
    }

    int quiet(int p, int what) {
        if (!is(p) || what < 0 || what > 1) {
            return -2;
        }
        List<Integer> each = new ArrayList<>();
        for (int c = 0; c < text.rows * text.columns; c++) {
            each.add(new Day(moved(now, p, c)).minutes(p).size());
        }
        int least = Collections.min(each);
        return what == 0 ? each.indexOf(least) : least;
    }

    int atOnce(int p, int set) {
        if (!is(p)) {
            return -2;
        }
        for (int b = 0; b < 32; b++) {
            if ((set >> b & 1) == 1 && !is(b)) {
                return -3;
            }
        }
        int cells = 0;
        for (int c = 0; c < text.rows * text.columns; c++) {
            Set<Integer> gaps = new TreeSet<>();
            for (int q = 0; q < people(); q++) {
                if (q != p && (set >> q & 1) == 1) {
                    gaps.add(gap(moved(now, p, c), p, q));
                }
            }
            cells += gaps.size() == 1 ? 1 : 0;
        }
        return cells;
    }

    private boolean silent(Deeds d, int p) {
        Set<Integer> said = new Day(d).said;
        for (int k : said) {
            if (d.namings.get(k).who == p) {
                return false;
            }
        }
        return true;
    }

    private Naming coded(int code, int p) {
        return new Naming(code % 100, p, code / 100, 10);
    }

    int silence(int p, int what) {
        if (!is(p) || what < 0 || what > 2) {
            return -2;
        }
        List<Integer> codes = new ArrayList<>();
        for (int m = 0; m < 20; m++) {
            for (int q = 0; q < people(); q++) {
                if (q != p) {
                    codes.add(100 * m + q);
                }
            }
        }
        if (silent(now, p)) {
            return List.of(0, -1, -1).get(what);
        }
        for (int a : codes) {
            if (silent(with(now, coded(a, p)), p)) {
                return List.of(1, a, -1).get(what);
            }
        }
        for (int a : codes) {
            for (int b : codes) {
                if (a < b && silent(with(now, coded(a, p), coded(b, p)), p)) {
                    return List.of(2, a, b).get(what);
                }
            }
        }
        return -1;
    }

    // ---- heard, timed

    private int refuse(int t, int p) {
        if (!isTray(t) || !is(p)) {
            return -2;
        }
        if (trays[t] == null) {
            return -6;
        }
        if (trays[t].v.length < 1 || trays[t].v.length > 6) {
            return -4;
        }
        for (long v : trays[t].v) {
            long whom = Math.floorDiv(v, 100L);
            long gap = Math.floorMod(v, 100L);
            if (whom < 0 || whom >= people() || whom == p || gap < 1 || gap > 20) {
                return -3;
            }
        }
        return 0;
    }

    private List<Integer> cells(int t, int p) {
        List<Integer> all = new ArrayList<>();
        for (int c = 0; c < text.rows * text.columns; c++) {
            Deeds d = moved(now, p, c);
            if (Arrays.stream(trays[t].v).allMatch(v -> gap(d, p, (int) (v / 100)) == v % 100)) {
                all.add(c);
            }
        }
        return all;
    }

    int heard(int t, int p) {
        int r = refuse(t, p);
        return r != 0 ? r : cells(t, p).size();
    }

    int heardAt(int t, int p, int i) {
        int r = refuse(t, p);
        if (r != 0) {
            return r;
        }
        if (i < 0) {
            return -3;
        }
        List<Integer> all = cells(t, p);
        return i < all.size() ? all.get(i) : -1;
    }

    int attempt(int t, int p) {
        int r = refuse(t, p);
        if (r != 0) {
            return r;
        }
        List<Integer> all = cells(t, p);
        if (all.isEmpty()) {
            return -1;
        }
        int best = -1;
        int least = 1000;
        for (int q = 0; q < people(); q++) {
            if (q == p) {
                continue;
            }
            List<Integer> gaps = new ArrayList<>();
            for (int c : all) {
                gaps.add(gap(moved(now, p, c), p, q));
            }
            int most = 0;
            for (int g : gaps) {
                most = Math.max(most, Collections.frequency(gaps, g));
            }
            if (most < least) {
                least = most;
                best = q;
            }
        }
        return best;
    }

    int winds(int t, int p) {
        if (!isTray(t) || !is(p)) {
            return -2;
        }
        if (trays[t] == null) {
            return -6;
        }
        if (trays[t].v.length < 1 || trays[t].v.length > 8) {
            return -4;
        }
        List<Integer> told = new ArrayList<>();
        for (long v : trays[t].v) {
            if (v < 0 || v > 99) {
                return -3;
            }
            told.add((int) v);
        }
        int bits = 0;
        for (int w = 0; w < 10; w++) {
            bits |= new Day(new Deeds(now.namings, now.cells, w)).minutes(p).equals(told) ? 1 << w : 0;
        }
        return bits;
    }

    // ---- chances

    /** For each person how likely it is nobody, then how many hiccups on the mean, each above and below. */
    private BigInteger[][] chances() {
        int n = now.namings.size();
        BigInteger[][] out = new BigInteger[2 * people()][2];
        BigInteger all = BigInteger.TEN.pow(n);
        for (BigInteger[] f : out) {
            f[0] = BigInteger.ZERO;
            f[1] = all;
        }
        for (int set = 0; set < 1 << n; set++) {
            List<Naming> some = new ArrayList<>();
            BigInteger w = BigInteger.ONE;
            for (int k = 0; k < n; k++) {
                Naming g = now.namings.get(k);
                boolean in = (set >> k & 1) == 1;
                w = w.multiply(BigInteger.valueOf(in ? g.sure : 10 - g.sure));
                if (in) {
                    some.add(g);
                }
            }
            if (w.signum() == 0) {
                continue;
            }
            Day day = new Day(new Deeds(some, now.cells, now.wind));
            for (int p = 0; p < people(); p++) {
                int has = day.minutes(p).size();
                out[p][0] = out[p][0].add(has == 0 ? w : BigInteger.ZERO);
                out[people() + p][0] = out[people() + p][0].add(w.multiply(BigInteger.valueOf(has)));
            }
        }
        return out;
    }

    private static long lowest(BigInteger[] f, int what) {
        return f[what].divide(f[0].gcd(f[1])).longValueExact();
    }

    int chance(int p, int what) {
        return !is(p) || what < 0 || what > 1 ? -2 : (int) lowest(chances()[p], what);
    }

    long mean(int p, int what) {
        return !is(p) || what < 0 || what > 1 ? -2 : lowest(chances()[people() + p], what);
    }

    int famous() {
        BigInteger[][] all = chances();
        int best = -1;
        for (int p = people() - 1; p >= 0; p--) {
            if (best < 0 || all[people() + p][0].compareTo(all[people() + best][0]) >= 0) {
                best = p;
            }
        }
        return best;
    }

    // ---- trays, images

    int numbers(int t, int sort, int n) {
        if (!isTray(t) || sort < 0 || sort > 3) {
            return -2;
        }
        if (n < 0 || n > 40) {
            return -3;
        }
        trays[t] = new Tray();
        trays[t].sort = sort;
        trays[t].v = new long[n];
        return 0;
    }

    long write(int t, int i, long v) {
        if (!isTray(t)) {
            return -2;
        }
        if (trays[t] == null) {
            return -6;
        }
        if (i < 0 || i >= trays[t].v.length) {
            return -7;
        }
        int bits = 8 << trays[t].sort;
        trays[t].v[i] = v << 64 - bits >> 64 - bits;
        return trays[t].v[i];
    }

    int lists(int t, int p) {
        if (!isTray(t) || !is(p)) {
            return -2;
        }
        if (trays[t] == null) {
            return -6;
        }
        List<Integer> all = new Day(now).minutes(p);
        int n = Math.min(all.size(), trays[t].v.length);
        for (int i = 0; i < n; i++) {
            trays[t].v[i] = all.get(i);
        }
        return n;
    }

    int image(int i) {
        if (i < 0 || i > 1) {
            return -2;
        }
        images[i] = new Image(text, now);
        return 0;
    }

    int restore(int i) {
        if (i < 0 || i > 1) {
            return -2;
        }
        if (images[i] == null) {
            return -5;
        }
        text = images[i].text;
        now = images[i].deeds;
        undo.clear();
        return 0;
    }

    int count(int what) {
        if (what < 0 || what > 7) {
            return -1;
        }
        return List.of(text.rows, text.columns, people(), now.namings.size(), now.wind, undo.size(), tape.size(),
            text.lines).get(what);
    }
}
