import java.util.Arrays;

/** Promises 24 to 32 at their edges: what is asked otherwise, what was heard, what was timed. */
final class AskedEdges extends Checks {
    private static final String SIX = "hill 1 1;" + "person 0;".repeat(6);
    private static final String THREE = "hill 1 1;" + "person 0;".repeat(3);
    private static final String SQUARE = "hill 8 8;person 0;person 0;person 63;";
    private static final int[] NO_PERSON = {-1, 3, 6};
    private static final int[] NO_TRAY = {-1, 4};

    // ---- promises 24, 25

    @Sentence(promise = 24, says = "How many NAMINGS of a PERSON by another one (100 times a MINUTE and who),")
    static void stopsFromNoneToAll() {
        due("by no other one", hill("hill 1 1;person 0;").stops(0, 99), 0);
        due("by one", hill(TWO).stops(0, 99), 1);
        due("by five", hill(SIX).stops(0, 99), 5);
        HiccupHill x = hill(SIX + "names 5 0 at 0;");
        due("by all of 100 MINUTES", x.stops(0, 1), 500);
        due("the first is of MINUTE 0", x.stopBy(0, 1, 0), 1);
        due("the last is of MINUTE 99", x.stopBy(0, 1, 499), 9905);
    }

    @Sentence(promise = 24, says = "one alone TOLD too (be there 8 or not),")
    static void oneIsToldBehindEight() {
        HiccupHill x = hill(TWO + "names 0 1 at 50;".repeat(8));
        due("behind 8", x.stops(1, 20), 1);
        due("by one at 19", x.stopBy(1, 20, 0), 1900);
        due("8 stay", x.count(3), 8);
        due("nothing to be UNDONE", x.count(5), 0);
        due("it stays as it was", x.hiccups(1), 8);
        // the one at MINUTE 0 is answered at 2, so that 0 has a HICCUP at 3 and names nobody
        HiccupHill y = hill(TWO + "names 0 1 at 3;answers : minute = 1;");
        due("one that stops it aside", y.stops(1, 4), 99);
        due("the first that doesn't", y.stopBy(1, 4, 0), 100);
    }

    @Sentence(promise = 24, says = "would have it have a HICCUP in a MINUTE (0 to 99).")
    static void stopsOfTheFirstAndTheLastMinute() {
        HiccupHill x = hill(TWO);
        due("MINUTE 0", x.stops(0, 0), 0);
        due("MINUTE 1", x.stops(0, 1), 1);
        due("by 1 at 0", x.stopBy(0, 1, 0), 1);
        due("by 0 at 0", x.stopBy(1, 1, 0), 0);
        due("MINUTE 99", x.stops(0, 99), 1);
        due("by one at 98", x.stopBy(0, 99, 0), 9801);
        HiccupHill among = hill(THREE + "names 0 1 at 9;names 0 2 at 9;");
        due("of none among others' HICCUPS", among.stops(0, 10), 2);
        due("of one ahead of another one's", among.stops(1, 10), 200);
        due("of one behind another one's", among.stops(2, 10), 200);
        due("of none beside a lesser one's", hill(THREE + "names 2 0 at 9;").stops(1, 10), 2);
        HiccupHill y = hill(TWO + "gaps : 20;");
        due("MINUTE 19", y.stops(0, 19), 0);
        due("MINUTE 20", y.stops(0, 20), 1);
    }

    @Sentence(promise = 24, says = "-2;")
    static void stopsOfNobodyAreRefused() {
        HiccupHill x = hill(SQUARE);
        refused("PERSON", -2, p -> x.stops(p, 0), NO_PERSON);
        due("of no PEOPLE", new HiccupHill().stops(0, 0), -2);
    }

    @Sentence(promise = 24, says = "-3: the MINUTE.")
    static void stopsOfNoMinuteAreRefused() {
        HiccupHill x = hill(SQUARE);
        refused("MINUTE", -3, n -> x.stops(0, n), -1, 100);
    }

    @Sentence(promise = 25, says = "The i-th of these (by these numbers).")
    static void stopsAreByTheirNumbers() {
        HiccupHill x = hill("hill 1 1;" + "person 0;".repeat(4) + "gaps : 1 + who;");
        // by 3 at 15, by 2 at 16, by 0 at 18: the earlier MINUTE first, whoever it is
        row("the i-th", i -> x.stopBy(1, 19, i), 1503, 1602, 1800, -1);
        HiccupHill y = hill("hill 1 1;" + "person 0;".repeat(4));
        row("the i-th in one MINUTE", i -> y.stopBy(1, 19, i), 1800, 1802, 1803, -1);
    }

    @Sentence(promise = 25, says = "NONE: not so many;")
    static void stopsBehindTheLastAreNone() {
        due("of none", hill(TWO).stopBy(0, 0, 0), -1);
        due("behind one", hill(TWO).stopBy(0, 1, 1), -1);
        due("the farthest", hill(TWO).stopBy(0, 1, Integer.MAX_VALUE), -1);
        due("behind 500", hill(SIX + "names 5 0 at 0;").stopBy(0, 1, 500), -1);
        due("by no other one", hill("hill 1 1;person 0;").stopBy(0, 50, 0), -1);
    }

    @Sentence(promise = 25, says = "-2;")
    static void stopByOfNobodyIsRefused() {
        HiccupHill x = hill(SQUARE);
        refused("PERSON", -2, p -> x.stopBy(p, 0, 0), NO_PERSON);
        due("of no PEOPLE", new HiccupHill().stopBy(0, 0, 0), -2);
    }

    @Sentence(promise = 25, says = "-3: also i is below 0.")
    static void stopByBelow0IsRefused() {
        HiccupHill x = hill(SQUARE);
        due("i is 1 below", x.stopBy(0, 50, -1), -3);
        due("i is the farthest", x.stopBy(0, 50, Integer.MIN_VALUE), -3);
        due("where there are none", x.stopBy(0, 0, -1), -3);
        refused("MINUTE", -3, n -> x.stopBy(0, n, 0), -1, 100);
    }

    // ---- promises 26, 27

    @Sentence(promise = 26, says = "The CELL in which a PERSON would have the fewest HICCUPS (all else as it is), of "
        + "like ones the first, what 0: the CELL, 1: how many.")
    static void theQuietestCellIsTheFirstOfLikeOnes() {
        // From CELL 63 alone what is said at 85 comes behind MINUTE 99.
        HiccupHill last = hill("hill 8 8;person 0;person 0;names 1 0 at 85;");
        due("the last CELL", last.quiet(0, 0), 63);
        due("none there", last.quiet(0, 1), 0);
        due("it stays where it is", last.person(0, 0), 0);
        HiccupHill like = hill("hill 8 8;person 63;person 0;names 1 0 at 0;");
        due("the first of 64", like.quiet(0, 0), 0);
        due("one in each", like.quiet(0, 1), 1);
        due("of one CELL", hill(TWO).quiet(1, 0), 0);
        due("as many as there can be", hill(TWO + "answers : 0 = 0;" + "names 0 1 at 0;".repeat(8)).quiet(1, 1), 200);
        due("the first of two", hill("hill 8 8;person 0;person 0;names 1 0 at 86;").quiet(0, 0), 55);
    }

    @Sentence(promise = 26, says = "-2: the PERSON, what.")
    static void quietOfNobodyOrNoWhatIsRefused() {
        HiccupHill x = hill(SQUARE);
        refused("PERSON", -2, p -> x.quiet(p, 0), NO_PERSON);
        refused("what", -2, what -> x.quiet(0, what), -1, 2);
        due("of no PEOPLE", new HiccupHill().quiet(0, 0), -2);
    }

    @Sentence(promise = 27, says = "CELLS in which a PERSON would name all others of a set (itself aside) with one "
        + "and the same GAP:")
    static void atOnceFromOneCellToAll() {
        due("the same GAP in all 64", hill(SQUARE + "gaps : 7;").atOnce(0, 6), 64);
        due("one other in all 64", hill(SQUARE).atOnce(0, 2), 64);
        due("itself aside", hill(SQUARE).atOnce(0, 3), 64);
        due("on the line between them", hill(SQUARE).atOnce(0, 6), 8);
        due("nowhere", hill("hill 1 2;person 0;person 0;person 1;").atOnce(0, 6), 0);
        due("all of six", hill(SIX).atOnce(5, 63), 1);
        due("the first one, too", hill("hill 1 2;person 0;person 1;person 0;").atOnce(2, 3), 0);
        due("the GAP is 20 at most", hill("hill 1 2;person 0;person 0;person 1;gaps : 20 + far;").atOnce(0, 6), 2);
    }

    @Sentence(promise = 27, says = "how many (0: if none of the set is another one).")
    static void aSetWithoutOthersHasNoCells() {
        due("an empty set", hill(SQUARE).atOnce(0, 0), 0);
        due("itself alone", hill(SQUARE).atOnce(0, 1), 0);
        due("the last one itself", hill(SIX).atOnce(5, 32), 0);
        due("one alone", hill("hill 8 8;person 0;").atOnce(0, 1), 0);
    }

    @Sentence(promise = 27, says = "-2;")
    static void atOnceOfNobodyIsRefused() {
        HiccupHill x = hill(SQUARE);
        refused("PERSON", -2, p -> x.atOnce(p, 1), NO_PERSON);
        due("of no PEOPLE", new HiccupHill().atOnce(0, 0), -2);
    }

    @Sentence(promise = 27, says = "-3: others are in the set.")
    static void setsOfOthersThanThePeopleAreRefused() {
        HiccupHill x = hill(SQUARE);
        refused("set", -3, set -> x.atOnce(0, set), 8, 15, 9, 1 << 30, -1);
        due("all of them", x.atOnce(0, 7), 8);
        due("a seventh", hill(SIX).atOnce(0, 64), -3);
        due("all six", hill(SIX).atOnce(0, 63), 1);
    }

    // ---- promise 28

    private static void silence(String text, int fewest, int first, int second) {
        HiccupHill x = hill(text);
        due("how many of " + text, x.silence(0, 0), fewest);
        due("the first of " + text, x.silence(0, 1), first);
        due("the second of " + text, x.silence(0, 2), second);
        due("nothing is TOLD", x.count(5), 0);
    }

    @Sentence(promise = 28, says = "SILENCE, what 0: how many (0: it says none anyhow), 1: the first one, 2: the "
        + "second one (100 times the MINUTE and who).")
    static void silenceIsOf0To2Namings() {
        silence(TWO, 0, -1, -1);
        silence(TWO + "names 1 0 at 9;names 0 1 at 10;", 0, -1, -1);
        silence(TWO + "names 0 1 at 10;", 1, 901, -1);
        silence(TWO + "names 0 1 at 10;names 0 1 at 15;", 2, 901, 1401);
    }

    @Sentence(promise = 28, says = "NONE: not by two, not so many;")
    static void silenceByThreeIsNone() {
        silence(TWO + "names 0 1 at 10;names 0 1 at 15;names 0 1 at 18;", -1, -1, -1);
        silence(TWO + "names 0 1 at 0;", -1, -1, -1);
        due("the first of none", hill(TWO).silence(0, 1), -1);
        due("the second of one", hill(TWO + "names 0 1 at 1;").silence(0, 2), -1);
    }

    @Sentence(promise = 28, says = "-2: the PERSON, what.")
    static void silenceOfNobodyOrNoWhatIsRefused() {
        HiccupHill x = hill(SQUARE);
        refused("PERSON", -2, p -> x.silence(p, 0), NO_PERSON);
        refused("what", -2, what -> x.silence(0, what), -1, 3);
        due("of no PEOPLE", new HiccupHill().silence(0, 0), -2);
    }

    @Sentence(promise = 28, says = "NAMINGS of it by others at MINUTES 0 to 19 to be TOLD too")
    static void silenceIsByNamingsAt0To19() {
        silence(TWO + "names 0 1 at 1;", 1, 1, -1);
        silence(TWO + "names 0 1 at 20;", 1, 1901, -1);
        silence(TWO + "names 0 1 at 21;", -1, -1, -1);
        silence(TWO + "gaps : 20;names 0 1 at 20;", 1, 1, -1);
        silence(TWO + "gaps : 20;names 0 1 at 19;", -1, -1, -1);
        silence(TWO + "gaps : 20;names 0 1 at 39;", 1, 1901, -1);
        silence(TWO + "gaps : 20;names 0 1 at 40;", -1, -1, -1);
        silence(TWO + "gaps : 20;names 0 1 at 20;names 0 1 at 39;", 2, 1, 1901);
    }

    @Sentence(promise = 28, says = "(behind all that there are, be these 8 or not; no two alike),")
    static void silenceIsToldBehindEight() {
        silence(TWO + "names 0 1 at 10;".repeat(8), 1, 901, -1);
        silence(TWO + "names 0 1 at 10;".repeat(4) + "names 0 1 at 15;".repeat(4), 2, 901, 1401);
        silence(TWO + "names 0 1 at 10;".repeat(7) + "names 0 1 at 15;", 2, 901, 1401);
        HiccupHill x = hill(TWO + "names 0 1 at 10;".repeat(8));
        x.silence(0, 0);
        due("8 stay", x.count(3), 8);
        due("all are said", x.naming(7, 4), 1);
    }

    @Sentence(promise = 28, says = "so that it says none of its own NAMINGS in THE DAY (ANSWERS aside):")
    static void silenceIsOfAllDayAnswersAside() {
        silence(TWO + "names 0 1 at 99;names 1 0 at 98;", 0, -1, -1);
        silence(TWO + "names 0 1 at 99;names 1 0 at 97;", -1, -1, -1);
        silence(TWO + "answers : 0 = 0;names 1 0 at 5;", 0, -1, -1);
        // named at 1, 0 has HICCUPS at 2, 6, 10, 14, 18, as both go on answering
        silence(TWO + "answers : 0 = 0;names 0 1 at 14;names 0 1 at 18;", 1, 101, -1);
        HiccupHill x = hill(TWO + "names 0 1 at 10;");
        for (int p : new int[] {1, 0, 1, 0}) {
            due("of PERSON " + p + " of two", x.silence(p, 0), 1 - p);
        }
        x.tell(0, 1, 15);
        due("as told now", x.silence(0, 0), 2);
        x.undo(1);
        due("as told then", x.silence(0, 0), 1);
    }

    @Sentence(promise = 28, says = "the fewest, 2 at most, of like ones the first by (100 times the MINUTE and who), "
        + "the lesser one first.")
    static void silenceIsTheFirstOfLikeOnes() {
        silence(THREE + "names 0 1 at 10;", 1, 901, -1);
        silence(THREE + "names 0 1 at 10;names 1 2 at 8;", 1, 901, -1);
        silence(THREE + "names 0 1 at 10;names 2 1 at 8;", 1, 902, -1);
        silence(THREE + "gaps : who + 1;names 0 1 at 10;", 1, 702, -1);
        silence(THREE + "names 0 1 at 15;names 0 1 at 10;", 2, 901, 1401);
        silence(THREE + "gaps : 6 - 2 * who;names 0 1 at 10;names 0 1 at 13;", 2, 601, 901);
        String gaps = "gaps : if who = 1 then 5 else 9 end;";
        silence(THREE + gaps + "names 0 1 at 7;names 0 1 at 11;", 2, 201, 202);
        HiccupHill x = hill(TWO + "names 1 0 at 1;");
        due("one by 0 at 0", x.silence(1, 0), 1);
        due("100 times 0 and 0", x.silence(1, 1), 0);
        HiccupHill y = hill(TWO + "names 1 0 at 1;names 1 0 at 5;");
        due("two, the first by 0 at 0", y.silence(1, 1), 0);
        due("the second", y.silence(1, 2), 400);
        // one stops both of one MINUTE
        silence(THREE + "names 0 1 at 10;names 0 1 at 10;", 1, 901, -1);
    }

    // ---- promises 29, 30, 31

    @Sentence(promise = 29, says = "HEARD: how many CELLS.")
    static void heardFromNoneTo64() {
        HiccupHill x = hill(SQUARE);
        tray(x, 0, 101);
        due("one CELL", x.heard(0, 0), 1);
        tray(x, 0, 115);
        due("the farthest CELL", x.heard(0, 0), 1);
        tray(x, 0, 116);
        due("none", x.heard(0, 0), 0);
        tray(x, 0, 120);
        due("none by 20", x.heard(0, 0), 0);
        HiccupHill y = hill(SQUARE + "gaps : 20;");
        tray(y, 3, 120, 220);
        due("all 64", y.heard(3, 0), 64);
    }

    @Sentence(promise = 29, says = "-2: the TRAY, the PERSON;")
    static void heardOfNoTrayOrNobodyIsRefused() {
        HiccupHill x = hill(SQUARE);
        tray(x, 0, 101);
        tray(x, 3, 101);
        refused("TRAY", -2, n -> x.heard(n, 0), NO_TRAY);
        refused("PERSON", -2, p -> x.heard(0, p), NO_PERSON);
        refused("PERSON and a TRAY that is MISSING", -2, p -> x.heard(1, p), NO_PERSON);
        due("the first TRAY", x.heard(0, 0), 1);
        due("the last TRAY", x.heard(3, 0), 1);
    }

    @Sentence(promise = 29, says = "-6;")
    static void heardOfAMissingTrayIsRefused() {
        HiccupHill x = hill(SQUARE);
        row("TRAY", tray -> x.heard(tray, 0), -6, -6, -6, -6);
    }

    @Sentence(promise = 29, says = "-4: not 1 to 6 numbers;")
    static void heardOf1To6Numbers() {
        HiccupHill x = hill(SQUARE);
        int[] due = {-4, 1, 1, 1, 1, 1, 1, -4, -4};
        for (int n = 0; n < due.length; n++) {
            long[] all = new long[n];
            Arrays.fill(all, 101);
            tray(x, 0, all);
            due(n + " numbers", x.heard(0, 0), due[n]);
        }
        x.numbers(0, 3, 40);
        due("40 numbers", x.heard(0, 0), -4);
    }

    @Sentence(promise = 29, says = "-3: one is not another PERSON and a GAP of 1 to 20.")
    static void heardOfOtherNumbersIsRefused() {
        HiccupHill x = hill(SQUARE);
        long[] bad = {0, 1, 20, 100, 121, 199, 200, 221, 301, 320, 9901, -1, -99, -101, Long.MIN_VALUE, Long.MAX_VALUE,
            (1L << 32) + 101, (1L << 48) + 101};
        for (long v : bad) {
            tray(x, 0, v);
            due("alone: " + v, x.heard(0, 0), -3);
            tray(x, 0, 101, 101, 101, 101, 101, v);
            due("the last: " + v, x.heard(0, 0), -3);
            tray(x, 0, 120, v);
            due("where there are no CELLS: " + v, x.heard(0, 0), -3);
        }
        for (long v : new long[] {101, 120, 201, 220}) {
            tray(x, 0, v);
            due("well: " + v, x.heard(0, 0) >= 0 ? 1 : 0, 1);
        }
        tray(x, 0, 101);
        due("itself", x.heard(0, 1), -3);
        tray(x, 0, 201);
        due("the last one itself", x.heard(0, 2), -3);
        due("the last one of the one ahead", x.heard(0, 1), 1);
        HiccupHill alone = hill("hill 8 8;person 0;");
        tray(alone, 0, 1);
        due("of one alone", alone.heard(0, 0), -3);
    }

    @Sentence(promise = 29, says = "HEARD in a TRAY (1 to 6 numbers: 100 times whom and a GAP):")
    static void heardNamesWhomByHundreds() {
        HiccupHill x = hill("hill 1 8;" + "person 0;".repeat(5) + "person 7;");
        int[][] all = {{501, 7}, {508, 0}, {108, 7}, {101, 0}, {401, 0}};
        for (int[] v : all) {
            tray(x, 0, v[0]);
            due("one CELL by " + v[0], x.heard(0, 0), 1);
            due("the CELL by " + v[0], x.heardAt(0, 0, 0), v[1]);
        }
        tray(x, 0, 101, 201, 301, 401, 508, 508);
        due("six of them", x.heardAt(0, 0, 0), 0);
        tray(x, 0, 101, 201, 301, 401, 508, 507);
        due("not the sixth", x.heard(0, 0), 0);
    }

    @Sentence(promise = 30, says = "The i-th of these.")
    static void heardCellsFromTheFirstToTheLast() {
        HiccupHill x = hill(SQUARE + "gaps : 20;");
        tray(x, 0, 120);
        for (int i = 0; i < 64; i++) {
            due("CELL " + i, x.heardAt(0, 0, i), i);
        }
    }

    @Sentence(promise = 30, says = "NONE: not so many;")
    static void heardCellsBehindTheLastAreNone() {
        HiccupHill x = hill(SQUARE + "gaps : 20;");
        tray(x, 0, 120);
        due("behind 64", x.heardAt(0, 0, 64), -1);
        due("the farthest", x.heardAt(0, 0, Integer.MAX_VALUE), -1);
        tray(x, 0, 101);
        due("of none", x.heardAt(0, 0, 0), -1);
        HiccupHill y = hill(SQUARE);
        tray(y, 0, 101);
        due("behind one", y.heardAt(0, 0, 1), -1);
    }

    @Sentence(promise = 30, says = "as heard();")
    static void heardAtIsRefusedAsHeard() {
        HiccupHill x = hill(SQUARE);
        due("MISSING", x.heardAt(0, 0, 0), -6);
        x.numbers(0, 3, 0);
        due("empty", x.heardAt(0, 0, 0), -4);
        x.numbers(0, 3, 7);
        due("seven", x.heardAt(0, 0, 0), -4);
        x.numbers(0, 3, 6);
        due("no GAP", x.heardAt(0, 0, 0), -3);
        refused("TRAY", -2, n -> x.heardAt(n, 0, 0), NO_TRAY);
        refused("PERSON", -2, p -> x.heardAt(0, p, 0), NO_PERSON);
    }

    @Sentence(promise = 30, says = "-3: also i is below 0.")
    static void heardAtBelow0IsRefused() {
        HiccupHill x = hill(SQUARE);
        tray(x, 0, 101);
        due("1 below", x.heardAt(0, 0, -1), -3);
        due("the farthest", x.heardAt(0, 0, Integer.MIN_VALUE), -3);
        tray(x, 0, 120);
        due("of none", x.heardAt(0, 0, -1), -3);
    }

    @Sentence(promise = 31, says = "The other PERSON to be asked with what GAP it is named: the greatest number of "
        + "these CELLS by which the GAP is the same is least, the first.")
    static void theFirstOfThoseWhoTellMost() {
        HiccupHill x = hill("hill 3 3;person 0;person 0;person 6;person 6;");
        tray(x, 0, 103);
        due("three CELLS, by 2 each its own GAP", x.attempt(0, 0), 2);
        tray(x, 0, 101);
        due("by one CELL all are alike", x.attempt(0, 0), 1);
        due("but itself", x.attempt(0, 2), 0);
        HiccupHill y = hill("hill 3 3;person 6;person 0;person 0;");
        tray(y, 1, 103);
        due("the last one asked", y.attempt(1, 2), 0);
        HiccupHill two = hill("hill 1 3;person 0;person 1;person 0;");
        tray(two, 0, 102);
        due("of two CELLS", two.attempt(0, 0), 2);
        HiccupHill full = hill(SQUARE + "gaps : 20;");
        tray(full, 0, 120);
        due("64 alike", full.attempt(0, 0), 1);
        HiccupHill alike = hill(SIX);
        tray(alike, 0, 101);
        due("the first of five", alike.attempt(0, 0), 1);
        tray(alike, 0, 1);
        due("the first of five others", alike.attempt(0, 5), 0);
    }

    @Sentence(promise = 31, says = "NONE: there are none, no others;")
    static void noCellsNobodyToAsk() {
        HiccupHill x = hill(SQUARE);
        tray(x, 0, 120);
        due("no CELLS", x.attempt(0, 0), -1);
        HiccupHill alone = hill("hill 8 8;person 0;");
        tray(alone, 0, 101);
        due("no others: as heard()", alone.attempt(0, 0), -3);
    }

    @Sentence(promise = 31, says = "as heard().")
    static void attemptIsRefusedAsHeard() {
        HiccupHill x = hill(SQUARE);
        due("MISSING", x.attempt(0, 0), -6);
        x.numbers(0, 3, 0);
        due("empty", x.attempt(0, 0), -4);
        x.numbers(0, 3, 7);
        due("seven", x.attempt(0, 0), -4);
        x.numbers(0, 3, 6);
        due("no GAP", x.attempt(0, 0), -3);
        refused("TRAY", -2, n -> x.attempt(n, 0), NO_TRAY);
        refused("PERSON", -2, p -> x.attempt(0, p), NO_PERSON);
    }

    // ---- promise 32

    @Sentence(promise = 32, says = "TIMED: WINDS, as bits.")
    static void windsFromNoneToTen() {
        HiccupHill x = hill(TWO + "names 0 1 at 98;");
        tray(x, 0, 99);
        due("all ten", x.winds(0, 1), 1023);
        tray(x, 0, 98);
        due("none", x.winds(0, 1), 0);
        tray(x, 0, 0);
        due("none at MINUTE 0", x.winds(0, 1), 0);
        due("of NOBODY", x.winds(0, 0), 0);
    }

    @Sentence(promise = 32, says = "WINDS 0 to 9 by which it is so.")
    static void theFirstAndTheLastWind() {
        HiccupHill x = hill(TWO + "gaps : wind + 1;names 0 1 at 0;wind 5;");
        for (int wind = 0; wind <= 10; wind++) {
            tray(x, 0, wind + 1);
            due("WIND " + wind, x.winds(0, 1), wind == 10 ? 0 : 1 << wind);
        }
        due("it blows as it did", x.count(4), 5);
    }

    @Sentence(promise = 32, says = "TIMED in a TRAY (1 to 8 numbers: MINUTES in which one PERSON has HICCUPS all DAY, "
        + "as they come, all of them):")
    static void allMinutesAreToldAsTheyCome() {
        HiccupHill x = hill(TWO + "names 0 1 at 4;names 0 1 at 4;names 0 1 at 0;");
        long[][] all = {{1, 5, 5}, {1, 5}, {1, 5, 5, 5}, {5, 5, 1}, {1, 1, 5}, {1, 5, 6}, {5}, {1, 5, 5, 0}};
        for (long[] minutes : all) {
            tray(x, 0, minutes);
            due(Arrays.toString(minutes), x.winds(0, 1), minutes == all[0] ? 1023 : 0);
        }
    }

    @Sentence(promise = 32, says = "MINUTES in which one PERSON has HICCUPS all DAY,")
    static void minutesOfOthersArentTimed() {
        HiccupHill x = hill(THREE + "names 1 0 at 0;names 0 2 at 2;names 0 1 at 3;names 2 0 at 4;names 0 2 at 6;");
        long[][] all = {{1, 5}, {4}, {3, 7}};
        for (int p = 0; p < 3; p++) {
            tray(x, 0, all[p]);
            due("PERSON " + p, x.winds(0, p), 1023);
            due("another one", x.winds(0, (p + 1) % 3), 0);
            x.numbers(1, 0, all[p].length);
            due("listed", x.lists(1, p), all[p].length);
            due("as listed", x.winds(1, p), 1023);
        }
    }

    @Sentence(promise = 32, says = "-2: the TRAY, the PERSON;")
    static void windsOfNoTrayOrNobodyAreRefused() {
        HiccupHill x = hill(SQUARE);
        tray(x, 0, 1);
        refused("TRAY", -2, n -> x.winds(n, 0), NO_TRAY);
        refused("PERSON", -2, p -> x.winds(0, p), NO_PERSON);
        refused("PERSON and a TRAY that is MISSING", -2, p -> x.winds(1, p), NO_PERSON);
    }

    @Sentence(promise = 32, says = "-6;")
    static void windsOfAMissingTrayAreRefused() {
        HiccupHill x = hill(SQUARE);
        row("TRAY", tray -> x.winds(tray, 0), -6, -6, -6, -6);
    }

    @Sentence(promise = 32, says = "-4: not 1 to 8 numbers;")
    static void windsOf1To8Numbers() {
        for (int n = 0; n <= 10; n++) {
            HiccupHill x = hill(TWO + "names 0 1 at 0;".repeat(Math.min(8, n)));
            long[] all = new long[n];
            Arrays.fill(all, 1);
            tray(x, 0, all);
            due(n + " numbers", x.winds(0, 1), n < 1 || n > 8 ? -4 : 1023);
        }
        HiccupHill y = hill(TWO);
        y.numbers(0, 3, 40);
        due("40 numbers", y.winds(0, 1), -4);
    }

    @Sentence(promise = 32, says = "-3: one is no MINUTE.")
    static void windsOfNoMinuteAreRefused() {
        HiccupHill x = hill(TWO);
        for (long v : new long[] {-1, 100, Long.MIN_VALUE, Long.MAX_VALUE, 1L << 32, (1L << 40) + 5}) {
            tray(x, 0, v);
            due("alone: " + v, x.winds(0, 1), -3);
            tray(x, 0, 0, 1, 2, 3, 4, 5, 6, v);
            due("the eighth: " + v, x.winds(0, 1), -3);
        }
        tray(x, 0, 0, 99);
        due("0 and 99", x.winds(0, 1), 0);
    }
}
