/** Promises 5 to 7 at their edges: people, namings, far, gaps, pitches, what the laws tell. */
final class LawEdges extends Checks {
    private static final String THOUSAND_TIMES_THOUSAND = "(100 * 100 * 100)";
    private static final int[] NO_PERSON = {2, 3, 6, -1, -2};

    private static int gapBy(String law) {
        return hill(TWO + "gaps : " + law + ";").between(0, 1, 0);
    }

    private static int pitchBy(String law) {
        return hill(TWO + "pitch : " + law + ";").between(0, 1, 1);
    }

    /** In a truth, M is the greatest that is kept. */
    private static void truth(String truth, int want) {
        String law = "if " + truth.replace("M", THOUSAND_TIMES_THOUSAND) + " then 1 else 0 end";
        due(truth, pitchBy(law), want);
    }

    // ---- promise 5

    @Sentence(promise = 5, says = "Of a PERSON, what 0: CELL, 1: loud, 2: deaf, 3: voice.")
    static void whatOfAPersonIs0To3() {
        HiccupHill x = hill("hill 8 8;person 63 loud 7 deaf 8 voice 9;person 0;");
        row("PERSON 0", what -> x.person(0, what), 63, 7, 8, 9);
        row("PERSON 1", what -> x.person(1, what), 0, 0, 0, 0);
    }

    @Sentence(promise = 5, says = "-2.")
    static void noSuchPersonNoSuchWhat() {
        HiccupHill x = hill(TWO);
        refused("PERSON", -2, p -> x.person(p, 0), NO_PERSON);
        refused("of no PEOPLE", -2, p -> new HiccupHill().person(p, 0), NO_PERSON);
        refused("what", -2, what -> x.person(1, what), -1, 4, 5);
    }

    // ---- promise 6

    @Sentence(promise = 6, says = "Of a NAMING, what 0: who, 1: whom, 2: MINUTE, 3: how likely, 4: 1 if it is said in "
        + "THE DAY, else 0.")
    static void whatOfANamingIs0To4() {
        HiccupHill x = hill(TWO + "person 0;names 2 1 at 98 sure 7;names 1 0 at 99;");
        namings(x, new int[] {2, 1, 98, 7, 1}, new int[] {1, 0, 99, 10, 0});
    }

    @Sentence(promise = 6, says = "4: 1 if it is said in THE DAY, else 0.")
    static void aNamingIsSaidOrNotAsTheDayGoesNow() {
        HiccupHill x = hill(TWO + "names 0 1 at 5;");
        due("said", x.naming(0, 4), 1);
        x.tell(1, 0, 4);
        due("a HICCUP stops it", x.naming(0, 4), 0);
        due("the one that it comes of is said", x.naming(1, 4), 1);
        x.undo(1);
        due("said again", x.naming(0, 4), 1);
    }

    @Sentence(promise = 6, says = "-2.")
    static void noSuchNamingNoSuchWhat() {
        HiccupHill x = hill(TWO + "names 0 1 at 0;");
        refused("NAMING", -2, k -> x.naming(k, 0), -1, 1, 8);
        refused("what", -2, what -> x.naming(0, what), -1, 5);
        due("of no NAMINGS", hill(TWO).naming(0, 4), -2);
        due("of a full row", hill(TWO + "names 0 1 at 0;".repeat(8)).naming(8, 4), -2);
        x.drop(0);
        due("of one that was DROPPED", x.naming(0, 0), -2);
    }

    // ---- promise 7

    @Sentence(promise = 7, says = "If one names another one now, what 0: the GAP, 1: the PITCH, 2: FAR.")
    static void whatOfTwoIs0To2() {
        HiccupHill x = hill("hill 8 8;person 0 voice 9;person 63;");
        row("what", what -> x.between(0, 1, what), 15, 9, 14);
        x.move(0, 63);
        due("as it is now", x.between(0, 1, 0), 1);
    }

    @Sentence(promise = 7, says = "-2: PEOPLE, both one, what.")
    static void noSuchTwoNoSuchWhat() {
        HiccupHill x = hill(TWO);
        refused("who", -2, p -> x.between(p, 1, 0), NO_PERSON);
        refused("whom", -2, p -> x.between(0, p, 0), NO_PERSON);
        refused("both", -2, p -> x.between(p, p, 0), NO_PERSON);
        due("both 0", x.between(0, 0, 2), -2);
        due("both 1", x.between(1, 1, 2), -2);
        refused("what", -2, what -> x.between(0, 1, what), -1, 3);
        due("of no PEOPLE", new HiccupHill().between(0, 1, 0), -2);
    }

    @Sentence(promise = 7, says = "FAR from one to another one: rows and columns between their CELLS, added.")
    static void farIs0To14() {
        due("in one CELL", hill(TWO).between(0, 1, 2), 0);
        HiccupHill x = hill("hill 8 8;person 0;person 63;person 7;person 56;person 8;");
        due("from end to end", x.between(0, 1, 2), 14);
        due("back", x.between(1, 0, 2), 14);
        due("across", x.between(2, 3, 2), 14);
        due("along a row", x.between(0, 2, 2), 7);
        due("along a column", x.between(0, 3, 2), 7);
        due("the next CELL but a row on", x.between(2, 4, 2), 8);
        due("in one column", hill("hill 8 1;person 0;person 7;").between(0, 1, 2), 7);
        due("in one row", hill("hill 1 8;person 0;person 7;").between(0, 1, 2), 7);
    }

    @Sentence(promise = 7, says = "Of who names whom the GAP is what the law gaps tells, 1 at least, 20 at most")
    static void theGapIs1To20() {
        int[][] all = {{0, 1}, {1, 1}, {2, 2}, {19, 19}, {20, 20}, {21, 20}, {999, 20}};
        for (int[] law : all) {
            due("law " + law[0], gapBy("" + law[0]), law[1]);
        }
        due("below 0", gapBy("0 - 1"), 1);
        due("20 below 0", gapBy("0 - 20"), 1);
        due("the least that is kept", gapBy("0 - 999 * 999 * 999"), 1);
        due("the greatest that is kept", gapBy("999 * 999 * 999"), 20);
    }

    @Sentence(promise = 7, says = "(without one: FAR and 1, 20 at most),")
    static void withoutALawTheGapIsFarAnd1() {
        due("in one CELL", hill(TWO).between(0, 1, 0), 1);
        due("side by side", hill("hill 1 2;person 0;person 1;").between(0, 1, 0), 2);
        due("from end to end", hill("hill 8 8;person 0;person 63;").between(0, 1, 0), 15);
    }

    @Sentence(promise = 7, says = "the PITCH what the law pitch tells, 0 at least, 9 at most")
    static void thePitchIs0To9() {
        int[][] all = {{0, 0}, {1, 1}, {8, 8}, {9, 9}, {10, 9}, {999, 9}};
        for (int[] law : all) {
            due("law " + law[0], pitchBy("" + law[0]), law[1]);
        }
        due("below 0", pitchBy("0 - 1"), 0);
        due("9 below 0", pitchBy("0 - 9"), 0);
        due("the least that is kept", pitchBy("0 - 999 * 999 * 999"), 0);
        due("the greatest that is kept", pitchBy("999 * 999 * 999"), 9);
    }

    @Sentence(promise = 7, says = "(without one: the voice).")
    static void withoutALawThePitchIsTheVoice() {
        HiccupHill x = hill("hill 1 1;person 0 voice 9 loud 5;person 0 deaf 4;");
        due("of who names", x.between(0, 1, 1), 9);
        due("none told", x.between(1, 0, 1), 0);
    }

    @Sentence(promise = 7, says = "In all laws: who, whom: their numbers; far: FAR; loud, voice: of who names; deaf: "
        + "of whom; wind: the WIND;")
    static void namesTellTheirGreatestAndLeast() {
        String people = "hill 8 8;person 0 loud 9 deaf 1 voice 8;person 63 loud 2 deaf 7 voice 3;"
            + "person 0;".repeat(3) + "person 63;wind 9;pitch : ";
        String[] names = {"who", "whom", "far - 5", "loud", "deaf", "voice", "wind"};
        int[] there = {0, 1, 9, 9, 7, 8, 9};
        int[] back = {1, 0, 9, 2, 1, 3, 9};
        for (int i = 0; i < names.length; i++) {
            HiccupHill x = hill(people + names[i] + ";");
            due(names[i], x.between(0, 1, 1), there[i]);
            due(names[i] + " back", x.between(1, 0, 1), back[i]);
        }
        due("the last who", hill(people + "who;").between(5, 0, 1), 5);
        due("the last whom", hill(people + "whom;").between(0, 5, 1), 5);
    }

    @Sentence(promise = 7, says = "Each + - * is kept from -1,000,000 to 1,000,000;")
    static void sumsAreKeptWithinAMillion() {
        truth("M + 1 = M", 1);
        truth("M - 1 + 1 = M", 1);
        truth("M - 1 < M", 1);
        truth("M + M - M = 0", 1);
        truth("M + 1 - 1 < M", 1);
        truth("0 - M - 1 = 0 - M", 1);
        truth("0 - M < 1 - M", 1);
        truth("0 - M - M + M = 0", 1);
        truth("0 - M + 1 - 1 = 0 - M", 1);
        truth("0 - M - 1 + 1 > 0 - M", 1);
    }

    @Sentence(promise = 7, says = "* is kept from -1,000,000 to 1,000,000;")
    static void productsAreKeptAndDontWrapAround() {
        truth("M * 2 = M", 1);
        truth("M * M = M", 1);
        truth("999 * 999 < M", 1);
        truth("999 * 999 + 999 + 999 < M", 1);
        truth("999 * 999 + 999 + 999 + 1 = M", 1);
        truth("(0 - M) * M = 0 - M", 1);
        truth("M * (0 - M) = 0 - M", 1);
        truth("(0 - M) * (0 - M) = M", 1);
        truth("999 * 999 * 999 * 999 * 999 * 999 * 0 = 0", 1);
        truth("(0 - 1) * M < 1 - M", 1);
    }

    @Sentence(promise = 7, says = "or SUM, one of = < >, SUM.")
    static void comparisonsAtTheirEdges() {
        for (int b = 4; b <= 6; b++) {
            truth("5 = " + b, b == 5 ? 1 : 0);
            truth("5 < " + b, b == 6 ? 1 : 0);
            truth("5 > " + b, b == 4 ? 1 : 0);
        }
        truth("0 - 1 < 0", 1);
        truth("0 - 1 > 0", 0);
        truth("0 - 1 = 1", 0);
        truth("0 - M < M", 1);
        truth("0 - M > M", 0);
    }

    @Sentence(promise = 7, says = "if tells the one SUM, if the TRUTH holds, else the other one.")
    static void ifTellsOneOfTwo() {
        due("it holds", pitchBy("if 1 = 1 then 3 else 4 end"), 3);
        due("it doesn't", pitchBy("if 1 = 2 then 3 else 4 end"), 4);
        due("of 0 and 1", pitchBy("if 1 = 1 then 0 else 1 end"), 0);
        String other = "if 1 > 0 and [0 > 1 or 1 < 2] then 2 else 3 end";
        due("within itself", pitchBy("if not 1 = 1 then 1 else " + other + " end"), 2);
        due("as a part", pitchBy("2 * if 1 = 2 then 3 else 4 end - 1"), 7);
    }
}
