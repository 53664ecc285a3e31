import java.util.ArrayList;
import java.util.Arrays;
import java.util.List;
import java.util.function.ToLongFunction;

/** What the document says of all calls: codes, what comes first, that all is asked of the day as it goes now. */
final class CallEdges extends Checks {
    private static final String WINDY = "hill 3 3;person 0 voice 1;person 4 loud 2;person 8 deaf 3;"
        + "names 0 1 at 3 sure 4;names 1 2 at 20;names 2 0 at 12 sure 7;wind 2;"
        + "gaps : far + wind - loud;pitch : wind + voice;answers : minute < 15 + wind;";

    private interface Deed {
        int on(HiccupHill x);
    }

    private static List<Deed> deeds() {
        return List.of(x -> read(x, WINDY), x -> x.tell(2, 1, 7), x -> x.wind(5), x -> x.move(0, 7), x -> x.drop(0),
            x -> x.undo(2), x -> x.perform(0), x -> x.image(0) + x.wind(0), x -> x.restore(0), x -> x.week(4, 12));
    }

    /** So few that an object that is asked them behind each of the deeds has no more than 512 calls. */
    private static List<ToLongFunction<HiccupHill>> questions() {
        List<ToLongFunction<HiccupHill>> all = new ArrayList<>();
        all.addAll(List.of(x -> x.hiccups(-1), x -> x.worst(), x -> x.nobody(), x -> x.crowd(10), x -> x.hiccup(0, 1),
            x -> x.hiccup(2, 3), x -> x.famous(), x -> x.between(0, 1, 0)));
        all.addAll(List.of(x -> x.between(0, 1, 1), x -> x.between(0, 1, 2), x -> x.who(1, 3, 2), x -> x.atOnce(0, 6),
            x -> x.heard(1, 0), x -> x.attempt(1, 0), x -> x.winds(2, 1)));
        for (int i = 0; i < 3; i++) {
            int p = i;
            all.addAll(List.of(x -> x.naming(p, 4), x -> x.hiccups(p), x -> x.minute(p, 0), x -> x.answers(p),
                x -> x.stops(p, 24), x -> x.quiet(p, 1), x -> x.silence(p, 0), x -> x.chance(p, 0), x -> x.mean(p, 0)));
        }
        return all;
    }

    private static long[] asked(HiccupHill x, boolean backwards) {
        List<ToLongFunction<HiccupHill>> all = questions();
        long[] answers = new long[all.size()];
        for (int i = 0; i < answers.length; i++) {
            int k = backwards ? answers.length - 1 - i : i;
            answers[k] = all.get(k).applyAsLong(x);
        }
        return answers;
    }

    private static HiccupHill withTrays() {
        HiccupHill x = new HiccupHill();
        tray(x, 0, 1009, 9003, 8204);
        tray(x, 1, 104);
        tray(x, 2, 7);
        return x;
    }

    @Sentence(promise = 16, says = "All is asked of THE DAY as it goes by what is told now.")
    static void allIsAskedOfTheDayAsItIsNow() {
        HiccupHill often = withTrays();
        long[] was = asked(often, false);
        for (int done = 1; done <= deeds().size(); done++) {
            deeds().get(done - 1).on(often);
            HiccupHill once = withTrays();
            for (Deed d : deeds().subList(0, done)) {
                d.on(once);
            }
            long[] is = asked(often, false);
            long[] want = asked(once, true);
            due("deed " + done + " changes what is asked", Arrays.equals(is, was) ? 0 : 1, 1);
            for (int i = 0; i < is.length; i++) {
                due("answer " + i + " behind deed " + done, is[i], want[i]);
            }
            was = is;
        }
    }

    /** Here each call can be refused in all its ways: tray 0 is missing, 1 is empty, 2 is too long, 3 has deeds. */
    private static HiccupHill refusing() {
        HiccupHill x = hill(TWO + "names 0 1 at 0;".repeat(8));
        x.wind(3);
        x.wind(4);
        x.numbers(1, 3, 0);
        x.numbers(2, 3, 9);
        tray(x, 3, 9001, 9002);
        x.image(1);
        feed(x, "hill 1 1;wind 6;");
        return x;
    }

    private static List<Long> state(HiccupHill x) {
        List<Long> all = new ArrayList<>();
        for (int i = 0; i < 9; i++) {
            all.add((long) x.count(i));
            for (int what = 0; what < 5; what++) {
                all.add((long) x.naming(i, what));
                all.add((long) x.person(i, what));
                all.add((long) x.judge(i, what));
            }
        }
        all.add((long) x.fault(0));
        all.add((long) x.hiccups(-1));
        return all;
    }

    @Sentence(promise = 41, says = "Refused calls answer by a code and change nothing:")
    static void refusedCallsChangeNothing() {
        HiccupHill x = refusing();
        List<Long> was = state(x);
        long[] codes = {x.hill(21), x.hill(-1), x.tell(0, 0, 0), x.tell(0, 1, 100), x.tell(0, 1, 1), x.drop(8),
            x.move(0, 1), x.move(2, 0), x.wind(10), x.undo(0), x.undo(3), x.perform(0), x.perform(4), x.week(1, 0),
            x.week(1, 41), x.numbers(3, 3, 41), x.numbers(3, 4, 1), x.write(3, 2, 5), x.write(0, 0, 5), x.lists(3, 2),
            x.lists(4, 0), x.image(2), x.restore(0), x.restore(2), x.quiet(2, 0), x.silence(2, 0), x.stops(0, 100)};
        for (int i = 0; i < codes.length; i++) {
            due("call " + i + " is refused", codes[i] < -1 ? 1 : 0, 1);
        }
        List<Long> is = state(x);
        for (int i = 0; i < was.size(); i++) {
            due("answer " + i, is.get(i), was.get(i));
        }
        due("THE TAPE", x.hill(16), 2);
        due("the IMAGE", x.restore(1), 0);
        due("its WIND", x.count(4), 4);
    }

    @Sentence(promise = 41, says = "-2 there is none such; -3 a number can't be; -4 too many; -5 it can't be now; -6 "
        + "a TRAY is MISSING; -7 it has no such number; -11, -12 why not (1, 2); -30 less the FAULT: a text.")
    static void codesAreAsTold() {
        HiccupHill x = refusing();
        due("none such", x.person(2, 0), -2);
        due("a number can't be", x.crowd(100), -3);
        due("too many", x.heard(2, 0), -4);
        due("it can't be now", x.restore(0), -5);
        due("a TRAY is MISSING", x.judge(0, 0), -6);
        due("it has no such number", x.write(1, 0, 0), -7);
        due("why not: 1", x.tell(0, 0, 0), -11);
        due("why not: 2", x.tell(0, 1, 0), -12);
        due("a text with FAULT 2", x.hill(15), -32);
        for (int i = 0; i < 45; i++) {
            x.feed(0, 0, 0, 0, 0);
        }
        due("it can't be now: the tape", x.feed(0, 0, 0, 0, 0), -5);
    }

    @Sentence(promise = 41, says = "(Of several that which the call tells first; all these ahead of NONE.)")
    static void whatACallTellsFirstComesFirst() {
        HiccupHill x = refusing();
        due("judge: what ahead of MISSING", x.judge(0, 4), -2);
        due("hiccup: what ahead of k", x.hiccup(-1, 5), -2);
        due("hiccup: what ahead of NONE", x.hiccup(400, 5), -2);
        due("minute: PERSON ahead of i", x.minute(2, -1), -2);
        due("minute: i ahead of NONE", x.minute(0, -1), -3);
        due("who: PERSON ahead of GAP", x.who(2, 0, 0), -2);
        due("stops: PERSON ahead of MINUTE", x.stops(2, 100), -2);
        due("stopBy: PERSON ahead of MINUTE", x.stopBy(2, 100, -1), -2);
        due("stopBy: i ahead of NONE", x.stopBy(0, 0, -1), -3);
        due("atOnce: PERSON ahead of the set", x.atOnce(2, 4), -2);
        due("silence: what ahead of NONE", x.silence(0, 3), -2);
        due("heard: PERSON ahead of MISSING", x.heard(0, 2), -2);
        due("heard: too many ahead of what they are", x.heard(2, 0), -4);
        due("heardAt: MISSING ahead of i", x.heardAt(0, 0, -1), -6);
        due("heardAt: too many ahead of i", x.heardAt(2, 0, -1), -4);
        due("attempt: PERSON ahead of MISSING", x.attempt(0, 2), -2);
        due("winds: PERSON ahead of MISSING", x.winds(0, 2), -2);
        x.numbers(2, 3, 9);
        x.write(2, 0, 100);
        due("winds: too many ahead of what they are", x.winds(2, 0), -4);
        due("numbers: sort ahead of n", x.numbers(3, 4, 41), -2);
        due("write: TRAY ahead of the number", x.write(4, 41, 0), -2);
        due("write: MISSING ahead of the number", x.write(0, 41, 0), -6);
        due("lists: PERSON ahead of MISSING", x.lists(0, 2), -2);
        due("tell: why not 1 ahead of 2", x.tell(2, 1, 0), -11);
    }

    @Sentence(promise = 41, says = "The k-th, the i-th of whatever: from 0 on, where it isn't told otherwise.")
    static void allIsNumberedFrom0On() {
        HiccupHill x = hill(TWO + "person 0;names 0 1 at 5;names 1 2 at 7;");
        due("PERSON 0", x.person(0, 0), 0);
        due("NAMING 0", x.naming(0, 2), 5);
        due("HICCUP 0", x.hiccup(0, 1), 6);
        due("the 0-th of a PERSON", x.minute(1, 0), 6);
        due("the 1st of a PERSON", x.minute(1, 1), -1);
        due("the 0-th NAMING", x.stopBy(0, 1, 0), 1);
        due("the 1st NAMING", x.stopBy(0, 1, 1), 2);
        tray(x, 0, 101);
        due("the 0-th CELL", x.heardAt(0, 0, 0), 0);
        due("the 1st CELL", x.heardAt(0, 0, 1), -1);
        tray(x, 0, 9001, 9010);
        due("the first place of a TRAY is 0", x.judge(0, 0), 1);
        due("who is NOBODY: bit 0", x.nobody(), 1);
    }
}
