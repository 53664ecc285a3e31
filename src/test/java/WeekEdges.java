import java.util.ArrayList;
import java.util.List;

/** Promise 15 at its edges: weeks, whose draws are reckoned here once more. */
final class WeekEdges extends Checks {
    private static final String SIX = "hill 8 8;" + "person 0;".repeat(6);
    private static final String FULL = TWO + "names 0 1 at 0;".repeat(8);

    private static long next(long x) {
        return (1103515245L * x + 12345) & 0xffffffffL;
    }

    private static boolean draws(long seed, int... moduliAndRests) {
        long x = seed;
        for (int i = 0; i < moduliAndRests.length; i += 2) {
            x = next(x);
            if ((x >> 16) % moduliAndRests[i] != moduliAndRests[i + 1]) {
                return false;
            }
        }
        return true;
    }

    /** The least seed by which the draws in turn leave these rests by these moduli. */
    static int seedOf(int... moduliAndRests) {
        for (int seed = 0; seed < 20000000; seed++) {
            if (draws(seed, moduliAndRests)) {
                return seed;
            }
        }
        throw new IllegalStateException("no such seed");
    }

    /** The deeds of a week as numbers of a tray, by the document's words. */
    private static long[] weekDeeds(int seed, int times) {
        List<Long> draws = new ArrayList<>();
        long x = seed & 0xffffffffL;
        for (int i = 0; i < 4 * times; i++) {
            x = next(x);
            draws.add(x >> 16);
        }
        long[] deeds = new long[times];
        int at = 0;
        for (int i = 0; i < times; i++) {
            long kind = draws.get(at++) % 5;
            if (kind < 2) {
                deeds[i] = 1000 * (draws.get(at++) % 6) + 100 * (draws.get(at++) % 6) + draws.get(at++) % 100;
            } else if (kind == 2) {
                deeds[i] = 8000 + draws.get(at++) % 8;
            } else if (kind == 3) {
                deeds[i] = 8100 + 100 * (draws.get(at++) % 6) + draws.get(at++) % 64;
            } else {
                deeds[i] = 9000 + draws.get(at++) % 10;
            }
        }
        return deeds;
    }

    private static void likeATray(int seed, int times) {
        HiccupHill week = hill(SIX);
        HiccupHill tray = hill(SIX);
        int done = 0;
        for (long v : weekDeeds(seed, times)) {
            tray(tray, 0, v);
            done += tray.perform(0);
        }
        String what = "WEEK of " + seed + ", " + times + " times";
        due(what, week.week(seed, times), done);
        due(what + ": WIND", week.count(4), tray.count(4));
        due(what + ": NAMINGS", week.count(3), tray.count(3));
        for (int i = 0; i < 8; i++) {
            due(what + ": NAMING " + i, week.naming(i, 2), tray.naming(i, 2));
            due(what + ": CELL " + i, week.person(i, 0), tray.person(i, 0));
        }
        due(what + ": can be UNDONE", week.count(5), done > 0 ? 1 : 0);
    }

    @Sentence(promise = 15, says = "A WEEK: how many could be.")
    static void aWeekCountsWhatCouldBe() {
        HiccupHill x = new HiccupHill();
        int winds = 0;
        for (long v : weekDeeds(77, 40)) {
            winds += v >= 9000 ? 1 : 0;
        }
        due("without PEOPLE the WIND alone", x.week(77, 40), winds);
        due("none", hill("hill 1 1;").week(seedOf(5, 2, 8, 0), 1), 0);
        due("one", hill(FULL).week(seedOf(5, 2, 8, 7), 1), 1);
    }

    @Sentence(promise = 15, says = "-3: how many times.")
    static void aWeekOfNoTimesIsRefused() {
        HiccupHill x = hill(SIX);
        refused("times", -3, times -> x.week(1, times), -1, 0, 41, 100);
        due("nothing is done", x.count(3) + x.count(4) + x.count(5), 0);
    }

    @Sentence(promise = 15, says = "so many times (1 to 40):")
    static void aWeekIsOf1To40Times() {
        likeATray(seedOf(5, 4, 10, 9), 1);
        likeATray(1, 1);
        likeATray(1, 2);
        likeATray(1, 39);
        likeATray(1, 40);
    }

    @Sentence(promise = 15, says = "A WEEK by a SEED (x, an int; a DRAW: x becomes 1103515245 x + 12345, it is x >>> "
        + "16):")
    static void drawsWrapAroundAndArentBelow0() {
        int[] seeds = {0, -1, Integer.MIN_VALUE, Integer.MAX_VALUE, 65536, -65536, 123456789, -987654321};
        for (int seed : seeds) {
            likeATray(seed, 40);
            likeATray(seed, 7);
        }
    }

    @Sentence(promise = 15, says = "DRAW modulo 5: 0, 1 TOLD: who DRAW modulo 6, whom DRAW modulo 6, MINUTE DRAW "
        + "modulo 100;")
    static void drawsOf0And1Tell() {
        for (int kind = 0; kind < 2; kind++) {
            HiccupHill x = hill(SIX);
            due("one", x.week(seedOf(5, kind, 6, 5, 6, 0, 100, 99), 1), 1);
            due("who", x.naming(0, 0), 5);
            due("whom", x.naming(0, 1), 0);
            due("MINUTE", x.naming(0, 2), 99);
            due("sure", x.naming(0, 3), 10);
            due("the other way", x.week(seedOf(5, kind, 6, 0, 6, 5, 100, 0), 1), 1);
            due("MINUTE 0", x.naming(1, 2), 0);
            due("both one", x.week(seedOf(5, kind, 6, 3, 6, 3, 100, 1), 1), 0);
            due("full", hill("hill 1 1;" + "person 0;".repeat(6) + "names 0 1 at 0;".repeat(8))
                .week(seedOf(5, kind, 6, 5, 6, 0, 100, 99), 1), 0);
        }
    }

    @Sentence(promise = 15, says = "2 DROPPED DRAW modulo 8; 3 PERSON DRAW modulo 6 is MOVED to CELL DRAW modulo 64; "
        + "4 WIND DRAW modulo 10;")
    static void drawsOf2To4DropMoveAndBlow() {
        HiccupHill x = hill(SIX + "names 0 1 at 0;".repeat(7) + "names 0 1 at 9;");
        due("the last is DROPPED", x.week(seedOf(5, 2, 8, 7), 1), 1);
        due("there is no such then", x.week(seedOf(5, 2, 8, 7), 1), 0);
        due("seven", x.naming(6, 2), 0);
        due("the last PERSON to the last CELL", x.week(seedOf(5, 3, 6, 5, 64, 63), 1), 1);
        due("there", x.person(5, 0), 63);
        due("the first one, where it is", x.week(seedOf(5, 3, 6, 0, 64, 0), 1), 1);
        due("WIND 9", x.week(seedOf(5, 4, 10, 9), 1), 1);
        due("9", x.count(4), 9);
        due("WIND 0", x.week(seedOf(5, 4, 10, 0), 1), 1);
        due("0", x.count(4), 0);
        due("five calls", x.count(5), 5);
    }

    @Sentence(promise = 15, says = "as in a TRAY, if it can be.")
    static void whatCantBeIsLeftOutAndTheWeekGoesOn() {
        HiccupHill x = hill("hill 1 1;wind 1;");
        // a DROP, a MOVE, a TELL of whatever, then a WIND
        int seed = seedOf(5, 2, 1, 0, 5, 3, 1, 0, 1, 0, 5, 0, 1, 0, 1, 0, 1, 0, 5, 4, 10, 6);
        due("not the first", x.week(seed, 1), 0);
        due("not the second", x.week(seed, 2), 0);
        due("not the third", x.week(seed, 3), 0);
        due("the fourth", x.week(seed, 4), 1);
        due("WIND", x.count(4), 6);
        due("one call", x.count(5), 1);
    }
}
