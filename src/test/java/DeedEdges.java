import java.util.Arrays;

/** Promises 8 to 14 at their edges: deeds, undoing, deeds in trays. */
final class DeedEdges extends Checks {
    private static final String SIX = "hill 8 8;" + "person 0;".repeat(6);
    private static final String FULL = TWO + "names 0 1 at 0;".repeat(8);

    /** Why the one deed can't be, as judge() and perform() tell it (0: it can). */
    private static void deed(String text, long v, int why) {
        HiccupHill x = hill(text);
        tray(x, 0, v);
        due("why not " + v, x.judge(0, 1), why);
        due("place of " + v, x.judge(0, 0), why == 0 ? -1 : 0);
        due("done of " + v, x.perform(0), why == 0 ? 1 : 0);
    }

    // ---- promise 8

    @Sentence(promise = 8, says = "One is TOLD: how many NAMINGS then.")
    static void tellCountsFrom1To8() {
        HiccupHill x = hill(TWO);
        for (int n = 1; n <= 8; n++) {
            due("NAMING " + n, x.tell(0, 1, 0), n);
        }
        due("as many as there are", x.count(3), 8);
    }

    @Sentence(promise = 8, says = "-11, -12.")
    static void tellIsRefusedForPeopleAheadOfFull() {
        HiccupHill x = hill(FULL);
        due("full", x.tell(0, 1, 0), -12);
        due("both one, full", x.tell(0, 0, 0), -11);
        due("no such who, full", x.tell(2, 1, 0), -11);
        due("no such whom, full", x.tell(0, 2, 0), -11);
        due("no such MINUTE, full", x.tell(0, 1, 100), -11);
        due("without PEOPLE", new HiccupHill().tell(0, 1, 0), -11);
        x.drop(0);
        due("no more full", x.tell(0, 1, 0), 8);
    }

    @Sentence(promise = 8, says = "to TELL one NAMING more (the last one then, sure 10),")
    static void oneToldIsTheLast() {
        HiccupHill x = hill(TWO + "person 0;names 0 1 at 5 sure 3;");
        x.tell(2, 1, 5);
        x.tell(0, 2, 0);
        namings(x, new int[] {0, 1, 5, 3}, new int[] {2, 1, 5, 10}, new int[] {0, 2, 0, 10});
        due("in one MINUTE it is said last", x.hiccup(2, 2), 2);
    }

    @Sentence(promise = 8, says = "1 no such PEOPLE (both one), CELL, MINUTE, NAMING, WIND.")
    static void deedsOfWhatIsntThereAreRefused() {
        HiccupHill x = hill("hill 2 3;person 0;person 5;names 0 1 at 7;");
        refused("tell: who", -11, p -> x.tell(p, 1, 0), -1, 2, 6);
        refused("tell: whom", -11, p -> x.tell(0, p, 0), -1, 2, 6);
        refused("tell: both", -11, p -> x.tell(p, p, 0), -1, 2, 6);
        refused("move:", -11, p -> x.move(p, 0), -1, 2, 6);
        refused("MINUTE", -11, n -> x.tell(0, 1, n), -1, 100);
        refused("CELL", -11, n -> x.move(0, n), -1, 100);
        refused("NAMING", -11, n -> x.drop(n), -1, 100);
        refused("WIND", -11, n -> x.wind(n), -1, 100);
        due("both 0", x.tell(0, 0, 0), -11);
        due("both 1", x.tell(1, 1, 99), -11);
        due("the CELL behind the last", x.move(0, 6), -11);
        due("the NAMING behind the last", x.drop(1), -11);
        due("the WIND behind the last", x.wind(10), -11);
        due("the last CELL", x.move(0, 5), 0);
        due("the last MINUTE", x.tell(1, 0, 99), 2);
        due("the first MINUTE", x.tell(1, 0, 0), 3);
        due("the last WIND", x.wind(9), 0);
    }

    @Sentence(promise = 8, says = "2 there are 8 NAMINGS.")
    static void aNinthNamingIsRefused() {
        HiccupHill x = hill(TWO + "names 0 1 at 0;".repeat(7));
        due("the eighth", x.tell(1, 0, 99), 8);
        due("the ninth", x.tell(1, 0, 98), -12);
        due("8 stay", x.count(3), 8);
        due("the last one stays", x.naming(7, 2), 99);
        deed(FULL, 150, 2);
        deed(TWO + "names 0 1 at 0;".repeat(7), 150, 0);
    }

    // ---- promise 9

    @Sentence(promise = 9, says = "One is DROPPED: how many NAMINGS then.")
    static void dropCountsFrom7To0() {
        HiccupHill x = hill(FULL);
        for (int n = 7; n >= 0; n--) {
            due("the last of " + (n + 1), x.drop(n), n);
        }
        due("none", x.count(3), 0);
    }

    @Sentence(promise = 9, says = "-11.")
    static void dropOfNoNamingIsRefused() {
        HiccupHill x = hill(TWO + "names 0 1 at 0;names 0 1 at 1;");
        refused("NAMING", -11, k -> x.drop(k), -1, 2, 8);
        due("2 stay", x.count(3), 2);
        due("one", x.drop(1), 1);
        due("it is gone", x.drop(1), -11);
        due("the other one", x.drop(0), 0);
        due("none is left", x.drop(0), -11);
        due("of no PEOPLE", new HiccupHill().drop(0), -11);
    }

    @Sentence(promise = 9, says = "to DROP one (later ones are one number less),")
    static void laterNamingsAreOneNumberLess() {
        int[][] left = {{1, 2, 3}, {0, 2, 3}, {0, 1, 3}, {0, 1, 2}};
        for (int k = 0; k < 4; k++) {
            HiccupHill x = hill("hill 1 1;" + "person 0;".repeat(4)
                + "names 0 1 at 0 sure 0;names 1 2 at 1 sure 1;names 2 3 at 2 sure 2;names 3 0 at 3 sure 3;");
            due("DROPPED " + k, x.drop(k), 3);
            int[][] all = new int[3][];
            for (int i = 0; i < 3; i++) {
                int was = left[k][i];
                all[i] = new int[] {was, (was + 1) % 4, was, was};
            }
            namings(x, all);
        }
    }

    // ---- promises 10, 11

    @Sentence(promise = 10, says = "To MOVE: the CELL where it was.")
    static void moveTellsTheCellWhereItWas() {
        HiccupHill x = hill("hill 8 8;person 63;person 0;");
        due("from the last CELL", x.move(0, 0), 63);
        due("from the first CELL", x.move(0, 63), 0);
        due("to where it is", x.move(0, 63), 63);
        due("to where the other one is", x.move(1, 63), 0);
        due("there", x.person(1, 0), 63);
    }

    @Sentence(promise = 10, says = "-11.")
    static void moveOfNobodyOrNowhereIsRefused() {
        HiccupHill x = hill("hill 3 2;person 5;");
        refused("PERSON", -11, p -> x.move(p, 0), -1, 1, 6);
        refused("CELL", -11, cell -> x.move(0, cell), -1, 6, 64);
        due("it stays", x.person(0, 0), 5);
        due("without PEOPLE", new HiccupHill().move(0, 0), -11);
    }

    @Sentence(promise = 11, says = "Another WIND (0 to 9): what it was.")
    static void theWindGoesFrom0To9() {
        HiccupHill x = hill("hill 1 1;wind 5;");
        due("to 9", x.wind(9), 5);
        due("9", x.count(4), 9);
        due("to 0", x.wind(0), 9);
        due("0", x.count(4), 0);
        due("as it is", x.wind(0), 0);
    }

    @Sentence(promise = 11, says = "-11.")
    static void windsBeyond9AreRefused() {
        HiccupHill x = hill("hill 1 1;wind 5;");
        refused("WIND", -11, n -> x.wind(n), -1, 10, 100);
        due("it stays", x.count(4), 5);
    }

    // ---- promise 12

    @Sentence(promise = 12, says = "n calls (1 to 10) are UNDONE: how many still can be.")
    static void oneToTenCallsAreUndone() {
        for (int n = 1; n <= 10; n++) {
            HiccupHill x = hill("hill 1 1;wind 9;");
            for (int i = 0; i < 13; i++) {
                x.wind(i % 10);
            }
            due("UNDONE " + n, x.undo(n), 10 - n);
            due("can be UNDONE then", x.count(5), 10 - n);
            due("WIND behind " + n, x.count(4), (12 - n) % 10);
        }
    }

    @Sentence(promise = 12, says = "-3: n, more than can be.")
    static void moreThanCanBeUndoneIsRefused() {
        HiccupHill x = hill("hill 1 1;wind 9;");
        due("none can be", x.undo(1), -3);
        x.wind(1);
        x.wind(2);
        refused("n is", -3, n -> x.undo(n), -1, 0, 3, 10, 11);
        due("nothing is UNDONE", x.count(4), 2);
        due("2 can be", x.undo(2), 0);
        due("WIND", x.count(4), 9);
        due("no more", x.undo(1), -3);
        for (int i = 0; i < 12; i++) {
            x.wind(i % 10);
        }
        due("eleven of twelve", x.undo(11), -3);
        due("0 of twelve", x.undo(0), -3);
    }

    @Sentence(promise = 12, says = "Calls of tell(), drop(), move(), wind() that aren't refused (even if all is as it "
        + "was),")
    static void refusedCallsArentUndone() {
        HiccupHill x = hill(TWO + "names 0 1 at 0;");
        x.tell(0, 0, 0);
        x.drop(1);
        x.move(2, 0);
        x.wind(10);
        due("four refused", x.count(5), 0);
        x.wind(0);
        x.move(0, 0);
        due("two by which all is as it was", x.count(5), 2);
        x.drop(0);
        x.tell(0, 1, 0);
        due("four", x.count(5), 4);
        due("UNDONE, the WIND alone is left", x.undo(3), 1);
        due("NAMINGS", x.count(3), 1);
        for (int n = 2; n <= 8; n++) {
            x.tell(0, 1, n);
        }
        due("tell() of a ninth", x.tell(0, 1, 9), -12);
        due("eight", x.count(5), 8);
    }

    @Sentence(promise = 12, says = "of perform(), week() that did one thing at least,")
    static void performAndWeekThatDidNothingArentUndone() {
        HiccupHill x = hill("hill 1 1;wind 4;");
        tray(x, 0);
        due("an empty TRAY", x.perform(0), 0);
        tray(x, 0, 9010, 9001);
        due("not the first", x.perform(0), 0);
        due("a WEEK of a DROP", x.week(WeekEdges.seedOf(5, 2), 1), 0);
        due("none can be UNDONE", x.count(5), 0);
        tray(x, 0, 9004, 9010);
        due("the first alone", x.perform(0), 1);
        due("one can be UNDONE", x.count(5), 1);
        due("a WEEK of a WIND", x.week(WeekEdges.seedOf(5, 4, 10, 4), 1), 1);
        due("two can be UNDONE, though all is as it was", x.count(5), 2);
        due("all is as it was", x.count(4), 4);
    }

    @Sentence(promise = 12, says = "can be UNDONE each as a whole, the latest first, 10 at most (eldest are "
        + "forgotten): NAMINGS, CELLS, WIND.")
    static void tenCallsAtMostCanBeUndone() {
        HiccupHill x = hill(SIX + "names 0 1 at 50 sure 4;");
        x.wind(1);
        x.wind(2);
        tray(x, 0, 9003, 8107, 199, 8000);
        due("the third", x.perform(0), 4);
        for (int cell = 1; cell <= 7; cell++) {
            x.move(1, cell);
        }
        due("ten", x.count(5), 10);
        x.move(1, 8);
        due("eleven", x.count(5), 10);
        due("the latest first", x.undo(1), 9);
        due("CELL ahead of it", x.person(1, 0), 7);
        due("all but the third", x.undo(7), 2);
        int[] third = {x.count(4), x.person(0, 0), x.count(3), x.naming(0, 2), x.naming(0, 3), x.person(1, 0)};
        int[] done = {3, 7, 1, 99, 10, 0};
        due("the third as a whole", x.undo(1), 1);
        int[] undone = {2, 0, 1, 50, 4, 0};
        int[] then = {x.count(4), x.person(0, 0), x.count(3), x.naming(0, 2), x.naming(0, 3), x.person(1, 0)};
        for (int i = 0; i < 6; i++) {
            due("done " + i, third[i], done[i]);
            due("UNDONE " + i, then[i], undone[i]);
        }
        due("the second", x.undo(1), 0);
        due("the eldest are forgotten", x.undo(1), -3);
        due("the first stays done", x.count(4), 1);
    }

    // ---- promise 13, 14

    @Sentence(promise = 13, says = "DEEDS, judged as if done up to the first that can't be, what 0: the first place "
        + "that can't be (NONE), 1: why (0), 2: how many HICCUPS there are in THE DAY then, 3: who is NOBODY then, as "
        + "bits.")
    static void judgingEndsAtTheFirstThatCantBe() {
        HiccupHill x = hill(TWO);
        tray(x, 0);
        row("without DEEDS", what -> x.judge(0, what), -1, 0, 0, 3);
        tray(x, 0, 150);
        row("one that can be", what -> x.judge(0, what), -1, 0, 1, 1);
        tray(x, 0, 9010);
        row("one that can't", what -> x.judge(0, what), 0, 1, 0, 3);
        tray(x, 0, 150, 160, 9010, 170);
        row("two, then one that can't", what -> x.judge(0, what), 2, 1, 2, 1);
        tray(x, 0, 150, 1060, 9010, 9010);
        row("two, then two that can't", what -> x.judge(0, what), 2, 1, 2, 0);
        due("nothing is done", x.count(3) + x.count(5), 0);
        tray(x, 0, 198, 199, 1095);
        due("HICCUPS to MINUTE 99", x.judge(0, 2), 2);
        due("NOBODY has none by then", x.judge(0, 3), 0);
        long[] forty = new long[40];
        Arrays.fill(forty, 9001);
        tray(x, 3, forty);
        due("forty can be", x.judge(3, 0), -1);
        x.write(3, 39, 8000);
        due("the fortieth can't", x.judge(3, 0), 39);
        due("why", x.judge(3, 1), 1);
        x.write(3, 0, 8000);
        due("nor the first", x.judge(3, 0), 0);
    }

    @Sentence(promise = 13, says = "-2: the TRAY, what;")
    static void judgeOfNoTrayOrNoWhatIsRefused() {
        HiccupHill x = hill(TWO);
        tray(x, 0, 9001);
        tray(x, 3, 9001);
        refused("TRAY", -2, n -> x.judge(n, 0), -1, 4);
        refused("what", -2, n -> x.judge(0, n), -1, 4);
        refused("what of one that is MISSING", -2, n -> x.judge(1, n), -1, 4);
        due("the first TRAY", x.judge(0, 3), 3);
        due("the last TRAY", x.judge(3, 3), 3);
    }

    @Sentence(promise = 13, says = "-6.")
    static void judgeOfAMissingTrayIsRefused() {
        for (int what = 0; what < 4; what++) {
            for (int tray = 0; tray < 4; tray++) {
                due("TRAY " + tray + ", what " + what, new HiccupHill().judge(tray, what), -6);
            }
        }
    }

    @Sentence(promise = 13, says = "0 to 7999 told as 1000 times who, 100 times whom and a MINUTE: one is TOLD (who 0 "
        + "to 7);")
    static void numbersTo7999Tell() {
        deed(SIX, -1, 1);
        deed(SIX, 0, 1);
        deed(SIX, 99, 1);
        deed(SIX, 100, 0);
        deed(SIX, 5499, 0);
        deed(SIX, 5599, 1);
        deed(SIX, 5600, 1);
        deed(SIX, 5999, 1);
        deed(SIX, 6000, 1);
        deed(SIX, 7999, 1);
        HiccupHill x = hill(SIX);
        tray(x, 0, 199, 5000, 5499);
        due("three", x.perform(0), 3);
        namings(x, new int[] {0, 1, 99}, new int[] {5, 0, 0}, new int[] {5, 4, 99});
    }

    @Sentence(promise = 13, says = "8000 to 8009: NAMING v - 8000 is DROPPED;")
    static void numbersFrom8000Drop() {
        deed(FULL, 8000, 0);
        deed(FULL, 8007, 0);
        deed(FULL, 8008, 1);
        deed(FULL, 8009, 1);
        deed(TWO, 8000, 1);
        HiccupHill x = hill(TWO + "names 0 1 at 0;".repeat(7) + "names 0 1 at 9;");
        tray(x, 0, 8000);
        x.perform(0);
        due("the first is DROPPED", x.naming(6, 2), 9);
        tray(x, 0, 8006);
        x.perform(0);
        due("the last is DROPPED", x.naming(5, 2), 0);
        due("six are left", x.count(3), 6);
    }

    @Sentence(promise = 13, says = "8100 to 8999: PERSON (v - 8100) by 100 is MOVED to CELL v modulo 100;")
    static void numbersFrom8100Move() {
        deed(SIX, 8100, 0);
        deed(SIX, 8163, 0);
        deed(SIX, 8164, 1);
        deed(SIX, 8199, 1);
        deed(SIX, 8600, 0);
        deed(SIX, 8663, 0);
        deed(SIX, 8700, 1);
        deed(SIX, 8999, 1);
        deed("hill 1 1;", 8100, 1);
        HiccupHill x = hill(SIX);
        tray(x, 0, 8163, 8662);
        due("two", x.perform(0), 2);
        due("PERSON 0", x.person(0, 0), 63);
        due("PERSON 5", x.person(5, 0), 62);
    }

    @Sentence(promise = 13, says = "9000 to 9009: WIND v - 9000; others: 1.")
    static void numbersFrom9000AreWinds() {
        deed(SIX, 9000, 0);
        deed(SIX, 9009, 0);
        deed(SIX, 9010, 1);
        deed(SIX, 9999, 1);
        deed(SIX, 10000, 1);
        for (long v = 8010; v < 8100; v++) {
            deed(FULL, v, 1);
        }
        for (long v : new long[] {-100, -9000, Long.MIN_VALUE, Long.MAX_VALUE, (1L << 32) + 9000, (1L << 40) + 100}) {
            deed(SIX, v, 1);
        }
        HiccupHill x = hill(SIX);
        tray(x, 0, 9009);
        x.perform(0);
        due("the last WIND", x.count(4), 9);
    }

    @Sentence(promise = 14, says = "They are done, till one can't be: how many.")
    static void deedsAreDoneTillOneCantBe() {
        HiccupHill x = hill(TWO);
        tray(x, 0);
        due("an empty TRAY", x.perform(0), 0);
        tray(x, 0, 8000, 150);
        due("not the first", x.perform(0), 0);
        tray(x, 0, 150, 9003, 8000, 8000, 160);
        due("the fourth can't be", x.perform(0), 3);
        due("no NAMINGS", x.count(3), 0);
        due("WIND", x.count(4), 3);
        long[] forty = new long[40];
        Arrays.fill(forty, 110);
        tray(x, 3, forty);
        due("eight of forty", x.perform(3), 8);
        Arrays.fill(forty, 9001);
        tray(x, 3, forty);
        due("forty", x.perform(3), 40);
    }

    @Sentence(promise = 14, says = "-2;")
    static void performOfNoTrayIsRefused() {
        HiccupHill x = hill(TWO);
        tray(x, 0, 9001);
        refused("TRAY", -2, n -> x.perform(n), -1, 4);
        due("WIND", x.count(4), 0);
    }

    @Sentence(promise = 14, says = "-6.")
    static void performOfAMissingTrayIsRefused() {
        HiccupHill x = hill(TWO);
        row("TRAY", tray -> x.perform(tray), -6, -6, -6, -6);
        tray(x, 0, 9001);
        due("there", x.perform(0), 1);
        due("another one", x.perform(1), -6);
    }
}
