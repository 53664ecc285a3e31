/** Promises 33 to 41 at their edges: chances, trays, images, counts. */
final class TrayEdges extends Checks {
    private static final int[] NO_PERSON = {-1, 2, 6};
    private static final int[] NO_TRAY = {-1, 4};
    private static final int[] NO_IMAGE = {-1, 2};

    private static void chance(String text, int p, int above, int below) {
        HiccupHill x = hill(text);
        due("CHANCE, above, of " + text, x.chance(p, 0), above);
        due("CHANCE, below, of " + text, x.chance(p, 1), below);
    }

    private static void mean(String text, int p, long above, long below) {
        HiccupHill x = hill(text);
        due("mean, above, of " + text, x.mean(p, 0), above);
        due("mean, below, of " + text, x.mean(p, 1), below);
    }

    // ---- promises 33, 34, 35

    @Sentence(promise = 33, says = "CHANCE that a PERSON is NOBODY, what 0: the number above, 1: below, in lowest "
        + "terms.")
    static void chancesFrom0To1InLowestTerms() {
        chance(TWO, 0, 1, 1);
        chance(TWO + "names 0 1 at 0;", 1, 0, 1);
        chance(TWO + "names 0 1 at 0 sure 5;", 1, 1, 2);
        chance(TWO + "names 0 1 at 0 sure 4;", 1, 3, 5);
        chance(TWO + "names 0 1 at 0 sure 7;", 1, 3, 10);
        chance(TWO + "names 0 1 at 99 sure 7;", 1, 1, 1);
        chance(TWO + "names 0 1 at 98 sure 7;", 1, 3, 10);
        chance(TWO + "names 0 1 at 0 sure 9;".repeat(8), 1, 1, 100000000);
        chance(TWO + "names 0 1 at 0 sure 3;".repeat(8), 1, 5764801, 100000000);
        chance(TWO + "names 0 1 at 0 sure 5;".repeat(8), 1, 1, 256);
    }

    @Sentence(promise = 33, says = "-2.")
    static void chanceOfNobodyOrNoWhatIsRefused() {
        HiccupHill x = hill(TWO);
        refused("PERSON", -2, p -> x.chance(p, 0), NO_PERSON);
        refused("what", -2, what -> x.chance(0, what), -1, 2);
        due("of no PEOPLE", new HiccupHill().chance(0, 0), -2);
    }

    @Sentence(promise = 33, says = "CHANCES: each NAMING is said, if it can be, as likely as told, by itself (else it "
        + "is as if it weren't told).")
    static void chancesOfNeverAndAlways() {
        chance(TWO + "names 0 1 at 0 sure 0;", 1, 1, 1);
        chance(TWO + "names 0 1 at 0 sure 10;", 1, 0, 1);
        chance(TWO + "names 0 1 at 0 sure 0;".repeat(7) + "names 0 1 at 0 sure 1;", 1, 9, 10);
        chance(TWO + "names 0 1 at 0 sure 1;names 0 1 at 5 sure 10;", 1, 0, 1);
        HiccupHill x = hill(TWO + "names 0 1 at 0 sure 3;");
        due("asked otherwise ahead of it", x.stops(1, 9), 1);
        due("it is still by itself", x.chance(1, 0), 7);
        // 1 can say it where 0 didn't name it at 0, of itself or as it had a HICCUP
        chance(TWO + "names 0 1 at 0 sure 10;names 1 0 at 1 sure 10;", 0, 1, 1);
        chance(TWO + "names 0 1 at 0 sure 0;names 1 0 at 1 sure 10;", 0, 0, 1);
        chance(TWO + "names 0 1 at 0 sure 4;names 1 0 at 1 sure 5;", 0, 7, 10);
        chance(TWO + "names 1 0 at 0 sure 5;names 0 1 at 1 sure 5;names 1 0 at 2 sure 5;", 1, 3, 4);
    }

    @Sentence(promise = 34, says = "How many HICCUPS a PERSON has on the mean, what 0: above, 1: below, in lowest "
        + "terms.")
    static void meansFrom0To200InLowestTerms() {
        mean(TWO, 0, 0, 1);
        mean(TWO + "names 0 1 at 0 sure 0;", 1, 0, 1);
        mean(TWO + "names 0 1 at 0 sure 10;", 1, 1, 1);
        mean(TWO + "names 0 1 at 0 sure 5;", 1, 1, 2);
        mean(TWO + "names 0 1 at 0 sure 3;".repeat(8), 1, 12, 5);
        mean(TWO + "names 0 1 at 99;", 1, 0, 1);
        mean(TWO + "names 0 1 at 98 sure 1;", 1, 1, 10);
        mean(TWO + "answers : minute = 5;names 0 1 at 3 sure 5;names 0 1 at 4 sure 5;", 0, 1, 2);
        String always = TWO + "answers : 0 = 0;";
        mean(always + "names 0 1 at 0;".repeat(8), 1, 200, 1);
        mean(always + "names 0 1 at 0 sure 1;".repeat(8), 1, 20, 1);
        mean(always + "names 0 1 at 0 sure 1;".repeat(7) + "names 0 1 at 96 sure 1;", 1, 88, 5);
        // 1 has no HICCUP by the last one where 0 has one at 2, named at 1 by itself
        mean(TWO + "names 1 0 at 1 sure 1;" + "names 0 1 at 2 sure 1;".repeat(7), 1, 63, 100);
    }

    @Sentence(promise = 34, says = "-2.")
    static void meanOfNobodyOrNoWhatIsRefused() {
        HiccupHill x = hill(TWO);
        refused("PERSON", -2, p -> x.mean(p, 0), NO_PERSON);
        refused("what", -2, what -> x.mean(0, what), -1, 2);
        due("of no PEOPLE", new HiccupHill().mean(0, 0), -2);
    }

    @Sentence(promise = 35, says = "Who has most on the mean, the first.")
    static void theFirstOfTheMostFamous() {
        String six = "hill 1 1;" + "person 0;".repeat(6);
        due("of those without HICCUPS", hill(six).famous(), 0);
        due("of one alone", hill("hill 1 1;person 0;").famous(), 0);
        due("the last", hill(six + "names 0 5 at 0 sure 1;").famous(), 5);
        due("the first of two", hill(six + "names 0 5 at 0 sure 7;names 0 4 at 0 sure 7;").famous(), 4);
        due("not by THE DAY", hill(six + "names 0 5 at 0 sure 0;names 0 5 at 0 sure 0;").famous(), 0);
        due("the second", hill(six + "names 0 1 at 0 sure 1;").famous(), 1);
        String halves = "names 0 3 at 0 sure 5;".repeat(2);
        due("a tenth more", hill(six + "names 0 1 at 0 sure 9;" + halves).famous(), 3);
    }

    @Sentence(promise = 35, says = "NONE: there are no PEOPLE.")
    static void nobodyIsFamousWithoutPeople() {
        due("a new object", new HiccupHill().famous(), -1);
        due("a hill without PEOPLE", hill("hill 8 8;wind 9;").famous(), -1);
    }

    // ---- promises 36, 37, 38

    @Sentence(promise = 36, says = "A TRAY has n numbers of a sort, all 0 (in place of another one): 0.")
    static void aTrayHas0To40Zeros() {
        HiccupHill x = hill(TWO + "wind 4;");
        for (int tray = 0; tray < 4; tray++) {
            due("40 numbers", x.numbers(tray, tray, 40), 0);
            due("the last", x.write(tray, 39, 1), 1);
            due("as many anew", x.numbers(tray, 3 - tray, 40), 0);
            due("each names itself", x.judge(tray, 0), 0);
            due("1 number", x.numbers(tray, 0, 1), 0);
            due("no second", x.write(tray, 1, 1), -7);
            due("none", x.numbers(tray, 3, 0), 0);
            due("no first", x.write(tray, 0, 1), -7);
        }
        for (int zero = 0; zero < 6; zero++) {
            tray(x, 0, 1, 1, 1, 1, 1, 1);
            due("GAP 1 to PERSON 0, six times", x.heard(0, 1), 1);
            x.numbers(0, 3, 6);
            for (int i = 0; i < 6; i++) {
                x.write(0, i == zero ? (i + 1) % 6 : i, 1);
            }
            due("0 at " + zero, x.heard(0, 1), -3);
        }
    }

    @Sentence(promise = 36, says = "-2: no such TRAY, sort;")
    static void numbersOfNoTrayOrSortAreRefused() {
        HiccupHill x = new HiccupHill();
        refused("TRAY", -2, n -> x.numbers(n, 0, 1), NO_TRAY);
        refused("sort", -2, n -> x.numbers(0, n, 1), NO_TRAY);
        due("MISSING still", x.write(0, 0, 1), -6);
        due("the last of both", x.numbers(3, 3, 1), 0);
        due("the first of both", x.numbers(0, 0, 1), 0);
    }

    @Sentence(promise = 36, says = "-3, and the TRAY stays: n is below 0 or above 40.")
    static void theTrayStaysWhenNIsRefused() {
        HiccupHill x = new HiccupHill();
        int[] bad = {-1, 41, 100, Integer.MIN_VALUE, Integer.MAX_VALUE};
        for (int n : bad) {
            due("n is " + n, x.numbers(0, 0, n), -3);
            due("MISSING still", x.write(0, 0, 1), -6);
        }
        tray(x, 0, 9001, 9001);
        for (int n : bad) {
            due("n is " + n + " again", x.numbers(0, 0, n), -3);
            due("the numbers stay", x.judge(0, 0), -1);
            due("the sort stays", x.write(0, 1, 9001), 9001);
            due("as many as there were", x.write(0, 2, 9001), -7);
        }
    }

    @Sentence(promise = 36, says = "TRAYS 0 to 3 are MISSING at first, or have 0 to 40 numbers of 8 bits (sort 0), 16 "
        + "(1), 32 (2), 64 (3).")
    static void sortsHaveTheirBits() {
        HiccupHill x = new HiccupHill();
        for (int tray = 0; tray < 4; tray++) {
            due("MISSING at first", x.write(tray, 0, 0), -6);
            for (int sort = 0; sort < 4; sort++) {
                x.numbers(tray, sort, 1);
                long most = Long.MAX_VALUE >> 64 - (8 << sort);
                due("the greatest of sort " + sort, x.write(tray, 0, most), most);
                due("the least of sort " + sort, x.write(tray, 0, -most - 1), -most - 1);
                due("one more wraps around", x.write(tray, 0, most + 1), -most - 1);
                due("one less wraps around", x.write(tray, 0, -most - 2), most);
            }
        }
    }

    @Sentence(promise = 37, says = "Number i of a TRAY is v, cut to its sort: as it is there.")
    static void numbersAreCutToTheirSort() {
        HiccupHill x = new HiccupHill();
        long[][] all = {
            {0, 127, 127}, {0, 128, -128}, {0, 255, -1}, {0, 256, 0}, {0, -129, 127}, {0, Long.MAX_VALUE, -1},
            {1, 32767, 32767}, {1, 32768, -32768}, {1, 65535, -1}, {1, 65536, 0}, {1, -32769, 32767},
            {2, 2147483647L, 2147483647L}, {2, 2147483648L, -2147483648L}, {2, 4294967295L, -1}, {2, 4294967296L, 0},
            {3, 4294967296L, 4294967296L}, {3, Long.MAX_VALUE, Long.MAX_VALUE}, {3, Long.MIN_VALUE, Long.MIN_VALUE}};
        for (long[] v : all) {
            x.numbers(0, (int) v[0], 40);
            due("the first " + v[1] + " of sort " + v[0], x.write(0, 0, v[1]), v[2]);
            due("the last " + v[1] + " of sort " + v[0], x.write(0, 39, v[1]), v[2]);
        }
        x.numbers(1, 0, 1);
        x.write(1, 0, 256 + 100);
        due("as it is there: 0 names 1 at 0", deedsOf(x, 1), 0);
    }

    /** Why the first deed of a tray can't be on a hill of two. */
    private static int deedsOf(HiccupHill x, int tray) {
        read(x, TWO);
        return x.judge(tray, 1);
    }

    @Sentence(promise = 37, says = "-2: no such TRAY;")
    static void writeIntoNoTrayIsRefused() {
        HiccupHill x = new HiccupHill();
        refused("TRAY", -2, n -> x.write(n, 0, 1), NO_TRAY);
    }

    @Sentence(promise = 37, says = "-6;")
    static void writeIntoAMissingTrayIsRefused() {
        HiccupHill x = new HiccupHill();
        for (int tray = 0; tray < 4; tray++) {
            due("TRAY " + tray, x.write(tray, 0, 1), -6);
            due("TRAY " + tray + ", no such number", x.write(tray, -1, 1), -6);
        }
    }

    @Sentence(promise = 37, says = "-7.")
    static void writeOfNoNumberIsRefused() {
        HiccupHill x = new HiccupHill();
        for (int n : new int[] {0, 1, 40}) {
            x.numbers(0, 0, n);
            due("behind " + n, x.write(0, n, 1), -7);
            due("below 0 of " + n, x.write(0, -1, 1), -7);
            due("the farthest of " + n, x.write(0, Integer.MAX_VALUE, 1), -7);
            due("the farthest below of " + n, x.write(0, Integer.MIN_VALUE, 1), -7);
        }
    }

    @Sentence(promise = 38, says = "MINUTES of HICCUPS of a PERSON come into a TRAY, as far as it has places: how "
        + "many.")
    static void listsFillTheTrayAsFarAsItHasPlaces() {
        HiccupHill x = hill(TWO + "names 0 1 at 98;names 0 1 at 0;names 0 1 at 0;names 1 0 at 50;");
        // places, how many come into them, whether that is all of them
        int[][] all = {{0, 0, -4}, {1, 1, 0}, {2, 2, 0}, {3, 3, 1023}, {4, 3, 0}, {8, 3, 0}, {40, 3, -4}};
        for (int[] n : all) {
            x.numbers(0, 0, n[0]);
            due(n[0] + " places", x.lists(0, 1), n[1]);
            due("TIMED in " + n[0] + " places", x.winds(0, 1), n[2]);
        }
        x.numbers(1, 3, 4);
        x.write(1, 3, 99);
        due("three of four", x.lists(1, 1), 3);
        due("the fourth stays", x.winds(1, 1), 0);
        x.tell(0, 1, 98);
        due("with it they are all", x.winds(1, 1), 1023);
        due("of NOBODY", hill(TWO).lists(0, 0), -6);
        HiccupHill full = hill(TWO + "answers : 0 = 0;" + "names 0 1 at 0;".repeat(8));
        full.numbers(2, 0, 40);
        due("40 of 200", full.lists(2, 1), 40);
        full.numbers(2, 0, 8);
        full.lists(2, 0);
        due("the first eight, not all of them", full.winds(2, 0), 0);
    }

    @Sentence(promise = 38, says = "-2: the TRAY, the PERSON;")
    static void listsOfNoTrayOrNobodyAreRefused() {
        HiccupHill x = hill(TWO);
        x.numbers(0, 0, 1);
        refused("TRAY", -2, n -> x.lists(n, 0), NO_TRAY);
        refused("PERSON", -2, p -> x.lists(0, p), NO_PERSON);
        refused("PERSON and a TRAY that is MISSING", -2, p -> x.lists(1, p), NO_PERSON);
    }

    @Sentence(promise = 38, says = "-6.")
    static void listsIntoAMissingTrayAreRefused() {
        HiccupHill x = hill(TWO);
        row("TRAY", tray -> x.lists(tray, 0), -6, -6, -6, -6);
    }

    // ---- promises 39, 40, 41

    @Sentence(promise = 39, says = "An IMAGE is made: 0.")
    static void anImageIsMadeOfWhateverThereIs() {
        HiccupHill x = new HiccupHill();
        due("of a new object", x.image(0), 0);
        read(x, "hill 8 8;" + "person 63;".repeat(6) + "names 0 1 at 0;".repeat(8));
        x.wind(9);
        due("of a full one", x.image(1), 0);
        due("UNDOING stays", x.count(5), 1);
        due("THE HILL stays", x.count(2) * 10 + x.count(3), 68);
        due("the new object again", x.restore(0), 0);
        due("no PEOPLE", x.count(2) + x.count(3) + x.count(4) + x.count(7), 0);
        due("the full one again", x.restore(1), 0);
        due("all of it", x.count(2) * 100 + x.count(3) * 10 + x.count(4), 689);
    }

    @Sentence(promise = 39, says = "-2.")
    static void noSuchImageIsMade() {
        HiccupHill x = new HiccupHill();
        refused("IMAGE", -2, i -> x.image(i), NO_IMAGE);
        due("none was made", x.restore(0), -5);
    }

    @Sentence(promise = 40, says = "All that is in an IMAGE is as it was: 0.")
    static void allInAnImageIsAsItWas() {
        HiccupHill x = hill("hill 2 3;person 5 loud 1;person 0 deaf 2 voice 3;names 0 1 at 4 sure 6;wind 7;"
            + "gaps : 8;pitch : 9;answers : 0 = 0;");
        x.move(0, 4);
        x.tell(1, 0, 99);
        x.wind(6);
        x.image(0);
        read(x, "hill 1 1;pitch : 1 + 1 + 1 + 1;gaps : 1 + 1 + 1;answers : 0 = 1;");
        tray(x, 1, 9001);
        feed(x, "#");
        due("restored", x.restore(0), 0);
        row("count", what -> x.count(what), 2, 3, 2, 2, 6, 0, 20, 8);
        row("PERSON 0", what -> x.person(0, what), 4, 1, 0, 0);
        row("PERSON 1", what -> x.person(1, what), 0, 0, 2, 3);
        namings(x, new int[] {0, 1, 4, 6}, new int[] {1, 0, 99, 10});
        due("law gaps", x.between(0, 1, 0), 8);
        due("law pitch", x.between(0, 1, 1), 9);
        due("law answers", x.answers(1) > 0 ? 1 : 0, 1);
        due("TRAYS aside", x.judge(1, 0), -1);
    }

    @Sentence(promise = 40, says = "-2;")
    static void noSuchImageIsRestored() {
        HiccupHill x = hill("hill 2 2;");
        x.image(0);
        x.image(1);
        x.wind(3);
        refused("IMAGE", -2, i -> x.restore(i), NO_IMAGE);
        due("all stays", x.count(4), 3);
        due("it can be UNDONE", x.count(5), 1);
    }

    @Sentence(promise = 40, says = "-5: none was made.")
    static void anImageThatWasntMadeIsRefused() {
        HiccupHill x = hill("hill 2 2;");
        x.wind(3);
        due("neither: 0", x.restore(0), -5);
        due("neither: 1", x.restore(1), -5);
        x.image(1);
        due("not the other one", x.restore(0), -5);
        due("it can still be UNDONE", x.count(5), 1);
        due("the one", x.restore(1), 0);
        read(x, "hill 1 1;");
        due("not by a new hill", x.restore(0), -5);
    }

    @Sentence(promise = 40, says = "IMAGES 0 to 1: THE HILL and what a call could bring back by UNDOING; nothing can "
        + "be UNDONE behind (none at first).")
    static void nothingCanBeUndoneBehindRestoring() {
        HiccupHill x = hill("hill 1 1;wind 1;");
        for (int i = 0; i < 2; i++) {
            due("none at first: " + i, x.restore(i), -5);
            x.wind(2 + i);
            due("made: " + i, x.image(i), 0);
        }
        x.wind(9);
        due("three", x.count(5), 3);
        due("the first", x.restore(0), 0);
        due("WIND of the first", x.count(4), 2);
        due("nothing can be UNDONE", x.undo(1), -3);
        x.wind(8);
        due("the second", x.restore(1), 0);
        due("WIND of the second", x.count(4), 3);
        due("none", x.count(5), 0);
        x.wind(4);
        due("but what comes then", x.undo(1), 0);
        due("WIND of the second again", x.count(4), 3);
    }

    @Sentence(promise = 41, says = "0 rows, 1 columns, 2 PEOPLE, 3 NAMINGS, 4 WIND, 5 calls that can be UNDONE, 6 "
        + "bytes on THE TAPE, 7 LINES.")
    static void countsFromNoneToFull() {
        HiccupHill x = new HiccupHill();
        row("a new object", what -> x.count(what), 1, 1, 0, 0, 0, 0, 0, 0);
        read(x, "hill 8 8;" + "person 0;".repeat(6) + "names 0 1 at 0;".repeat(8));
        for (int i = 0; i < 12; i++) {
            x.wind(9);
        }
        for (int i = 0; i < 45; i++) {
            x.feed(0, 0, 0, 0, 0);
        }
        row("a full one", what -> x.count(what), 8, 8, 6, 8, 9, 10, 900, 15);
    }

    @Sentence(promise = 41, says = "NONE for others.")
    static void otherCountsAreNone() {
        refused("what", -1, what -> new HiccupHill().count(what), -1, 8, 9);
    }
}
