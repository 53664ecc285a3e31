/** Promises 16 to 23 at their edges: the day as it goes. */
final class DayEdges extends Checks {
    private static final String ALWAYS = "answers : 0 = 0;";
    private static final String LADDER = TWO + ALWAYS + "names 0 1 at 0;names 0 1 at 1;";
    private static final String FULL_DAY = TWO + ALWAYS + "names 0 1 at 0;".repeat(8);
    private static final int[] NO_PERSON = {2, 6, -2};

    /** Hiccups as whom, minute, of whom, one after the other. */
    private static void day(String text, int[]... all) {
        HiccupHill x = hill(text);
        due("HICCUPS of " + text, x.hiccups(-1), all.length);
        for (int i = 0; i < all.length; i++) {
            int k = i;
            row("HICCUP " + k + " of " + text, what -> x.hiccup(k, what), all[k]);
        }
        due("no more of " + text, x.hiccup(all.length, 0), -1);
    }

    // ---- promise 16

    @Sentence(promise = 16, says = "How many HICCUPS a PERSON has (NONE: all people together).")
    static void noneAsksOfAllPeople() {
        HiccupHill x = hill(TWO + "person 0;names 0 1 at 0;names 0 2 at 0;names 2 1 at 5;");
        int[] all = {3, 0, 2, 1};
        for (int p = -1; p < 3; p++) {
            due("PERSON " + p, x.hiccups(p), all[p + 1]);
        }
        due("of no PEOPLE", new HiccupHill().hiccups(-1), 0);
        due("as many as there can be", hill(FULL_DAY).hiccups(-1), 400);
    }

    @Sentence(promise = 16, says = "-2.")
    static void hiccupsOfNobodyAreRefused() {
        HiccupHill x = hill(TWO);
        refused("PERSON", -2, p -> x.hiccups(p), NO_PERSON);
        refused("of no PEOPLE", -2, p -> new HiccupHill().hiccups(p), NO_PERSON);
    }

    @Sentence(promise = 16, says = "THE DAY goes from MINUTE 0 to 99;")
    static void theDayGoesFrom0To99() {
        day(TWO + "names 0 1 at 0;", new int[] {1, 1, 0});
        day(TWO + "names 0 1 at 98;", new int[] {1, 99, 0});
        day(TWO + "names 0 1 at 99;");
        HiccupHill x = hill(TWO + "names 0 1 at 0;names 0 1 at 99;");
        due("said at 0", x.naming(0, 4), 1);
        due("said at 99", x.naming(1, 4), 1);
        due("without NAMINGS", hill(TWO + ALWAYS).hiccups(-1), 0);
    }

    @Sentence(promise = 16, says = "What is said: whom is named has a HICCUP as many MINUTES later as the GAP tells, "
        + "of that PITCH (none behind MINUTE 99).")
    static void noHiccupComesBehindMinute99() {
        for (int gap = 1; gap <= 20; gap++) {
            String law = "gaps : " + gap + ";";
            day(TWO + law + "names 0 1 at " + (99 - gap) + ";", new int[] {1, 99, 0});
            day(TWO + law + "names 0 1 at " + (100 - gap) + ";");
        }
        HiccupHill x = hill(TWO + "gaps : 20;pitch : 9;names 0 1 at 79;names 0 1 at 80;");
        due("GAP", x.hiccup(0, 4), 20);
        due("PITCH", x.hiccup(0, 3), 9);
        due("one", x.hiccups(1), 1);
    }

    @Sentence(promise = 16, says = "NAMINGS of which it is told how likely they are go as if sure, but in CHANCES.")
    static void unlikelyNamingsGoAsIfSure() {
        HiccupHill x = hill(TWO + "names 0 1 at 0 sure 0;names 1 0 at 1 sure 10;");
        due("said", x.naming(0, 4), 1);
        due("a HICCUP of it", x.hiccups(1), 1);
        due("it stops another one", x.naming(1, 4), 0);
        due("but in CHANCES", x.chance(1, 0), 1);
        due("where the other one is said", x.chance(0, 0), 0);
    }

    // ---- promise 17

    @Sentence(promise = 17, says = "Of HICCUP k, what 0: whom, 1: the MINUTE, 2: of whom it is, 3: PITCH, 4: GAP.")
    static void whatOfAHiccupIs0To4() {
        HiccupHill x = hill("hill 8 8;person 0 voice 9;person 63;names 0 1 at 84;");
        row("what", what -> x.hiccup(0, what), 1, 99, 0, 9, 15);
    }

    @Sentence(promise = 17, says = "NONE: not so many;")
    static void hiccupsBehindTheLastAreNone() {
        due("of none", new HiccupHill().hiccup(0, 0), -1);
        HiccupHill x = hill(TWO + "names 0 1 at 0;");
        due("the first", x.hiccup(0, 0), 1);
        due("the next", x.hiccup(1, 0), -1);
        due("the farthest", x.hiccup(Integer.MAX_VALUE, 4), -1);
        HiccupHill full = hill(FULL_DAY);
        due("the last of 400", full.hiccup(399, 1), 99);
        due("behind it", full.hiccup(400, 1), -1);
    }

    @Sentence(promise = 17, says = "-2: what;")
    static void noSuchWhatOfAHiccup() {
        HiccupHill x = hill(TWO + "names 0 1 at 0;");
        refused("what", -2, what -> x.hiccup(0, what), -1, 5);
        refused("what of one that isn't", -2, what -> x.hiccup(1, what), -1, 5);
    }

    @Sentence(promise = 17, says = "-3: k is below 0.")
    static void hiccupsBelow0AreRefused() {
        HiccupHill x = hill(TWO + "names 0 1 at 0;");
        due("1 below", x.hiccup(-1, 0), -3);
        due("the farthest", x.hiccup(Integer.MIN_VALUE, 4), -3);
        due("of none", new HiccupHill().hiccup(-1, 0), -3);
    }

    @Sentence(promise = 17, says = "Who has a HICCUP in that MINUTE says nothing in it.")
    static void whoHasAHiccupSaysNothingInThatMinute() {
        for (int at = 3; at <= 6; at++) {
            HiccupHill x = hill(TWO + "person 0;names 0 1 at 4;names 1 2 at " + at + ";names 0 2 at " + at + ";");
            due("said at " + at, x.naming(1, 4), at == 5 ? 0 : 1);
            due("by one without a HICCUP at " + at, x.naming(2, 4), 1);
        }
        HiccupHill last = hill(TWO + "names 0 1 at 98;names 1 0 at 99;");
        due("in the last MINUTE", last.naming(1, 4), 0);
        day(TWO + "names 0 1 at 3;names 1 0 at 4;names 0 1 at 5;", new int[] {1, 4, 0}, new int[] {1, 6, 0});
        // 1 has HICCUPS at 4 and 5, so it can't answer the first one, and answers the second
        day(TWO + ALWAYS + "names 0 1 at 95;names 0 1 at 96;",
            new int[] {1, 96, 0}, new int[] {1, 97, 0}, new int[] {0, 99, 1});
    }

    @Sentence(promise = 17, says = "of each HICCUP of the MINUTE ahead, in the order in which they came, for which "
        + "the law answers holds (without one: none), whom it was names back who it was of.")
    static void aHiccupIsAnsweredInTheNextMinuteAlone() {
        day(TWO + "names 0 1 at 94;", new int[] {1, 95, 0});
        day(TWO + ALWAYS + "names 0 1 at 94;", new int[] {1, 95, 0}, new int[] {0, 97, 1}, new int[] {1, 99, 0});
        day(TWO + "answers : 0 = 1;names 0 1 at 94;", new int[] {1, 95, 0});
        day(TWO + "answers : minute = 95;names 0 1 at 94;", new int[] {1, 95, 0}, new int[] {0, 97, 1});
        day(TWO + ALWAYS + "names 0 1 at 98;", new int[] {1, 99, 0});
        HiccupHill x = hill(TWO + ALWAYS + "names 0 1 at 97;");
        due("answered at 99", x.answers(1), 1);
        due("none comes of it", x.hiccups(-1), 1);
        due("a HICCUP at 99 isn't answered", hill(TWO + ALWAYS + "names 0 1 at 98;").answers(1), 0);
        day("hill 1 1;" + "person 0;".repeat(3) + "answers : minute = 96;names 2 1 at 95;names 0 1 at 95;",
            new int[] {1, 96, 2}, new int[] {1, 96, 0}, new int[] {2, 98, 1}, new int[] {0, 98, 1});
    }

    @Sentence(promise = 17, says = "in answers, of a HICCUP: who, whom, far, loud, deaf, voice as of the naming it "
        + "comes of, gap: its GAP, minute: the MINUTE in which it comes.")
    static void answersKnowTheHiccupsGapAndMinute() {
        String hill = "hill 8 8;person 0 loud 9;person 63 deaf 8;names 0 1 at ";
        for (int at = 0; at <= 83; at++) {
            for (int off = -1; off <= 1; off++) {
                String text = hill + at + ";answers : minute = " + (at + 15 + off) + ";";
                due(text, hill(text).answers(1), off == 0 ? 1 : 0);
            }
        }
        for (int gap = 14; gap <= 16; gap++) {
            due("gap " + gap, hill(hill + "0;answers : gap = " + gap + " and who = 0;").answers(1), gap == 15 ? 1 : 0);
        }
        due("as of the naming", hill(hill + "0;answers : who = 0 and whom = 1 and far = 14 and loud = 9 and deaf = 8"
            + " and voice = 0 and wind = 0;").answers(1), 1);
    }

    @Sentence(promise = 17, says = "in the order in which they came, for which the law answers holds")
    static void theLawHoldsForEachHiccupByItself() {
        String six = "hill 1 1;" + "person 0;".repeat(6);
        for (int who = 0; who < 6; who++) {
            int a = who == 0 ? 1 : 0;
            int b = who == 5 ? 4 : 5;
            String namings = "names " + who + " " + a + " at 4;names " + who + " " + b + " at 4;"
                + "names " + who + " " + a + " at 68;names " + who + " " + b + " at 68;";
            for (int one = 0; one < 4; one++) {
                int whom = one % 2 == 0 ? a : b;
                HiccupHill x = hill(six + namings + "answers : who = " + who + " and whom = " + whom
                    + " and minute = " + (one < 2 ? 5 : 69) + ";");
                due("HICCUPS", x.hiccups(-1), 5);
                due("by " + whom, x.answers(whom), 1);
                due("of " + who, x.minute(who, 0), one < 2 ? 7 : 71);
            }
        }
        // one MINUTE and one pair on, the other one
        HiccupHill y = hill(six + "answers : minute = 69;"
            + "names 0 2 at 4;names 0 1 at 68;names 5 4 at 68;names 5 3 at 4;");
        due("by 2", y.answers(2) + y.answers(3), 0);
        due("by 1", y.answers(1) * 10 + y.answers(4), 11);
    }

    @Sentence(promise = 17, says = "in each: first HICCUPS come that are due; then NAMINGS of that MINUTE are said, "
        + "in their order, then ANSWERS:")
    static void inAMinuteHiccupsComeFirstThenNamingsThenAnswers() {
        // at 10 PERSON 3 has a HICCUP, so it doesn't say the first of three NAMINGS; 1 answers behind them
        day("hill 1 1;" + "person 0;".repeat(4) + "answers : minute = 9;names 3 0 at 10;names 2 3 at 10;names 0 1 at 8;"
            + "names 0 3 at 9;names 0 2 at 10;", new int[] {1, 9, 0}, new int[] {3, 10, 0}, new int[] {3, 11, 2},
            new int[] {2, 11, 0}, new int[] {0, 11, 1});
    }

    @Sentence(promise = 17, says = "HICCUPS of one MINUTE come in the order in which what they come of was said.")
    static void hiccupsOfOneMinuteComeAsSaid() {
        String hill = "hill 1 1;" + "person 0;".repeat(3);
        String gaps = "gaps : if who = 0 then 5 else if who = 1 then 3 else 1 end end;";
        // the MINUTE, then the NAMINGS' order, whoever is told first
        day(hill + gaps + "names 2 0 at 8;names 1 2 at 6;names 0 1 at 4;",
            new int[] {1, 9, 0}, new int[] {2, 9, 1}, new int[] {0, 9, 2});
        day(hill + "names 2 0 at 8;names 1 2 at 8;names 0 1 at 8;",
            new int[] {0, 9, 2}, new int[] {2, 9, 1}, new int[] {1, 9, 0});
        // NAMINGS ahead of ANSWERS in the MINUTE in which both are said
        day(hill + "answers : minute = 9;names 0 1 at 8;names 2 1 at 10;",
            new int[] {1, 9, 0}, new int[] {1, 11, 2}, new int[] {0, 11, 1});
    }

    @Sentence(promise = 17, says = "They are numbered from 0 on as they come;")
    static void hiccupsAreNumberedAsTheyCome() {
        HiccupHill x = hill("hill 1 1;" + "person 0;".repeat(3) + "names 0 1 at 98;names 2 0 at 40;names 0 2 at 0;");
        row("HICCUP", k -> x.hiccup(k, 1), 1, 41, 99, -1);
        HiccupHill full = hill(FULL_DAY);
        for (int k = 0; k < 400; k++) {
            due("HICCUP " + k + " of 400", full.hiccup(k, 1), 1 + k / 8 * 2);
        }
    }

    // ---- promise 18

    @Sentence(promise = 18, says = "The MINUTE of the i-th HICCUP of a PERSON.")
    static void minutesFromTheFirstToTheLast() {
        HiccupHill x = hill(FULL_DAY);
        due("the first", x.minute(1, 0), 1);
        due("the eighth", x.minute(1, 7), 1);
        due("the ninth", x.minute(1, 8), 5);
        due("the last", x.minute(0, 199), 99);
        due("the last of the other one", x.minute(1, 199), 97);
    }

    @Sentence(promise = 18, says = "NONE: not so many;")
    static void minutesBehindTheLastAreNone() {
        HiccupHill x = hill(TWO + "names 0 1 at 0;names 0 1 at 4;");
        due("the last", x.minute(1, 1), 5);
        due("the next", x.minute(1, 2), -1);
        due("the farthest", x.minute(1, Integer.MAX_VALUE), -1);
        due("of NOBODY", x.minute(0, 0), -1);
        due("behind 200", hill(FULL_DAY).minute(1, 200), -1);
    }

    @Sentence(promise = 18, says = "-2;")
    static void minutesOfNobodyAreRefused() {
        HiccupHill x = hill(TWO + "names 0 1 at 0;");
        refused("PERSON", -2, p -> x.minute(p, 0), NO_PERSON);
        due("PERSON -1", x.minute(-1, 0), -2);
        due("of no PEOPLE", new HiccupHill().minute(0, 0), -2);
    }

    @Sentence(promise = 18, says = "-3: i is below 0.")
    static void minutesBelow0AreRefused() {
        HiccupHill x = hill(TWO + "names 0 1 at 0;");
        due("1 below", x.minute(1, -1), -3);
        due("the farthest", x.minute(1, Integer.MIN_VALUE), -3);
        due("of NOBODY", x.minute(0, -1), -3);
    }

    // ---- promises 19, 20

    @Sentence(promise = 19, says = "How many HICCUPS there are in a MINUTE (0 to 99).")
    static void crowdsOfTheFirstAndTheLastMinute() {
        HiccupHill x = hill(TWO + "person 0;names 0 1 at 0;names 0 2 at 0;names 0 1 at 98;names 0 1 at 97;");
        int[][] all = {{0, 0}, {1, 2}, {2, 0}, {97, 0}, {98, 1}, {99, 1}};
        for (int[] m : all) {
            due("MINUTE " + m[0], x.crowd(m[0]), m[1]);
        }
        due("without PEOPLE", new HiccupHill().crowd(99), 0);
        due("the most", hill(FULL_DAY).crowd(99), 8);
    }

    @Sentence(promise = 19, says = "-3.")
    static void crowdsOfNoMinuteAreRefused() {
        HiccupHill x = hill(TWO + "names 0 1 at 98;names 0 1 at 99;");
        refused("MINUTE", -3, n -> x.crowd(n), -1, 100);
        refused("without PEOPLE, MINUTE", -3, n -> new HiccupHill().crowd(n), -1, 100);
    }

    @Sentence(promise = 20, says = "The MINUTE with most HICCUPS, the first.")
    static void theFirstOfTheWorstMinutes() {
        due("one", hill(TWO + "names 0 1 at 98;").worst(), 99);
        due("the first of two", hill(TWO + "names 0 1 at 98;names 0 1 at 0;").worst(), 1);
        due("more than the first", hill(TWO + "names 0 1 at 98;names 0 1 at 0;names 0 1 at 98;").worst(), 99);
        due("the first of many", hill(FULL_DAY).worst(), 1);
        String more = "names 0 1 at 1;" + "names 0 1 at 2;".repeat(2) + "names 0 1 at 3;".repeat(3);
        due("more in each", hill(TWO + more).worst(), 4);
        due("those behind MINUTE 99 aside", hill(TWO + "names 0 1 at 4;" + "names 0 1 at 99;".repeat(2)).worst(), 5);
    }

    @Sentence(promise = 20, says = "NONE: there are none.")
    static void noMinuteIsWorstWithoutHiccups() {
        due("without PEOPLE", new HiccupHill().worst(), -1);
        due("without NAMINGS", hill(TWO).worst(), -1);
        due("none behind MINUTE 99", hill(TWO + "names 0 1 at 99;").worst(), -1);
    }

    // ---- promises 21, 22, 23

    @Sentence(promise = 21, says = "How many ANSWERS are said by a PERSON.")
    static void answersFromNoneToAll() {
        due("without a law", hill(TWO + "names 0 1 at 0;").answers(1), 0);
        due("without HICCUPS", hill(TWO + ALWAYS).answers(1), 0);
        HiccupHill x = hill(FULL_DAY);
        due("all of 1", x.answers(1), 8 * 25);
        due("all of 0", x.answers(0), 8 * 24);
        due("none can be said", hill(TWO + ALWAYS + "names 0 1 at 97;names 0 1 at 98;").answers(1), 0);
    }

    @Sentence(promise = 21, says = "-2.")
    static void answersOfNobodyAreRefused() {
        HiccupHill x = hill(LADDER);
        refused("PERSON", -2, p -> x.answers(p), NO_PERSON);
        due("PERSON -1", x.answers(-1), -2);
        due("of no PEOPLE", new HiccupHill().answers(0), -2);
    }

    @Sentence(promise = 22, says = "Who is NOBODY, as bits.")
    static void nobodiesFromNoneToSix() {
        due("without PEOPLE", new HiccupHill().nobody(), 0);
        String six = "hill 1 1;" + "person 0;".repeat(6);
        due("all six", hill(six).nobody(), 63);
        due("not the last", hill(six + "names 0 5 at 0;").nobody(), 31);
        due("not the first", hill(six + "names 5 0 at 0;").nobody(), 62);
        due("none", hill(LADDER).nobody(), 0);
    }

    @Sentence(promise = 22, says = "NOBODY: one who has no HICCUP all DAY.")
    static void aHiccupInTheLastMinuteIsOne() {
        due("at 99", hill(TWO + "names 0 1 at 98;").nobody(), 1);
        due("none behind", hill(TWO + "names 0 1 at 99;").nobody(), 3);
        due("at 1", hill(TWO + "names 0 1 at 0;").nobody(), 1);
    }

    @Sentence(promise = 23, says = "Who a HICCUP of a PERSON can be of, by its GAP (1 to 20) and its PITCH (0 to 9), "
        + "as all are now, as bits.")
    static void whoByTheLeastAndTheGreatest() {
        String six = "hill 1 1;" + "person 0;".repeat(6);
        due("all others of 0", hill(six).who(0, 1, 0), 62);
        due("all others of 5", hill(six).who(5, 1, 0), 31);
        HiccupHill x = hill(six + "gaps : 15 + who;pitch : 4 + who;");
        due("the greatest", x.who(0, 20, 9), 32);
        due("another GAP", x.who(0, 19, 9), 0);
        due("another PITCH", x.who(0, 20, 8), 0);
        due("itself aside", x.who(5, 20, 9), 0);
        due("of one alone", hill("hill 1 1;person 0;").who(0, 1, 0), 0);
        due("two by the greatest GAP", hill(six + "gaps : 16 + who;pitch : 9;").who(0, 20, 9), 48);
    }

    @Sentence(promise = 23, says = "-2;")
    static void whoOfNobodyIsRefused() {
        refused("PERSON", -2, p -> hill(TWO).who(p, 1, 0), NO_PERSON);
        due("PERSON -1", hill(TWO).who(-1, 1, 0), -2);
        due("of no PEOPLE", new HiccupHill().who(0, 1, 0), -2);
    }

    @Sentence(promise = 23, says = "-3: the GAP, the PITCH.")
    static void whoByNoGapOrPitchIsRefused() {
        HiccupHill x = hill(TWO);
        refused("GAP", -3, n -> x.who(1, n, 0), -1, 21);
        refused("PITCH", -3, n -> x.who(1, 1, n), -1, 21);
        due("GAP 0", x.who(1, 0, 0), -3);
        due("PITCH 10", x.who(1, 1, 10), -3);
        due("GAP 20", x.who(1, 20, 9), 0);
        due("PITCH 0", x.who(1, 1, 0), 1);
    }
}
