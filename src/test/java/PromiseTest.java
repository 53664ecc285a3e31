/** For each promise of the document what it asks on plain hills, at its edges and of wrong calls, reckoned by hand. */
public final class PromiseTest extends Checks {
    private static final String THREE = "hill 1 5;person 0 voice 2;person 1 voice 3;person 4 voice 4;"
        + "names 0 1 at 10;names 1 2 at 12;names 2 0 at 11;";
    private static final String LADDER = "hill 1 1;person 0;person 0;names 0 1 at 0;names 0 1 at 1;answers : 0=0;";
    private static final String SQUARE = "hill 3 3;person 0;person 0;person 6;";

    private static void promise1() {
        HiccupHill x = new HiccupHill();
        int[] counts = {1, 1, 0, 0, 0, 0, 0, 0};
        for (int what = 0; what < counts.length; what++) {
            due("1: count " + what, x.count(what), counts[what]);
        }
        due("1: NONE", HiccupHill.NONE, -1);
        due("1: no hiccups", x.hiccups(-1), 0);
        due("1: nobody is there", x.nobody(), 0);
        due("1: no tray", x.write(3, 0, 1), -6);
        due("1: no image", x.restore(1), -5);
    }

    private static void promise2() {
        HiccupHill x = new HiccupHill();
        for (int i = 1; i <= 45; i++) {
            due("2: feed " + i, x.feed(1, 2, 3, 4, 5), 20 * i);
        }
        due("2: feed beyond 900", x.feed(1, 2, 3, 4, 5), -5);
        due("2: the tape stays", x.count(6), 900);
        HiccupHill y = new HiccupHill();
        due("2: the highest byte first", y.feed(0x68696c6c, 0x20312031, 0x3b202020, 0x0a0a0a0a, 0x20202020), 20);
        due("2: it is read", y.hill(20), 1);
        String full = "hill 1 1;wind 7;" + " ".repeat(883) + ";";
        due("2: 900 bytes are read", read(new HiccupHill(), full), -32);
        due("2: 900 bytes hold a hill", read(new HiccupHill(), "hill 1 1;wind 7" + " ".repeat(884) + ";"), 2);
    }

    private static void promise3() {
        HiccupHill x = new HiccupHill();
        feed(x, "hill 2 3;person 5;wind 4;");
        due("3: n below 0", x.hill(-1), -3);
        due("3: n above", x.hill(41), -3);
        due("3: the tape stays", x.count(6), 40);
        due("3: lines", x.hill(25), 3);
        due("3: the tape is empty", x.count(6), 0);
        due("3: rows", x.count(0), 2);
        due("3: columns", x.count(1), 3);
        x.wind(5);
        due("3: nothing there", x.hill(0), -32);
        due("3: its place", x.fault(1), 0);
        due("3: a fault", read(x, "hill 1 1;person 1;"), -33);
        due("3: the tape is empty behind a fault", x.count(6), 0);
        due("3: undo stays", x.count(5), 1);
        due("3: wind stays", x.count(4), 5);
        due("3: people stay", x.count(2), 1);
        due("3: lines stay", x.count(7), 3);
        feed(x, "hill 1 1;wind 9;wind 8;");
        due("3: a part of the tape", x.hill(16), 2);
        due("3: all of it is gone", x.count(6), 0);
        due("3: nothing to undo", x.undo(1), -3);
        due("3: wind as told", x.count(4), 9);
        due("3: no people", x.count(2), 0);
    }

    private static void promise4Kinds() {
        fault("hill 1 1;#", 1, 9);
        fault("hill 1 1;Wind 1;", 1, 9);
        fault("hill 1 1;\twind 1;", 1, 9);
        fault("hill 1 1;w\u00e9", 2, 9);
        fault("hill 1 1;wind \u00e9;", 1, 14);
        fault("hill 0001 1;", 1, 5);
        fault("hill 1 1;wind 1000;", 1, 14);
        fault("", 2, 0);
        fault("  \n ", 2, 4);
        fault("wind 1;", 2, 0);
        fault("hills 1 1;", 2, 0);
        fault("hill 1 1", 2, 8);
        fault("hill 1 1  ", 2, 10);
        fault("hill 1 1;hill 1 1;", 2, 9);
        fault("hill 1 1;;", 2, 9);
        fault("hill 1 1;person loud 1;", 2, 16);
        fault("hill 1 1;person 0 sure 1;", 2, 18);
        fault("hill 1 1;wind 1 2;", 2, 16);
        fault("hill 0 1;", 3, 5);
        fault("hill 1 9;", 3, 7);
        fault("hill 2 3;person 6;", 3, 16);
        fault("hill 1 1;person 0 loud 10;", 3, 23);
        fault(TWO + "names 2 0 at 0;", 3, 33);
        fault(TWO + "names 1 1 at 0;", 3, 35);
        fault(TWO + "names 1 2 at 0;", 3, 35);
        fault(TWO + "names 1 0 at 100;", 3, 40);
        fault(TWO + "names 1 0 at 99 sure 11;", 3, 48);
        fault("hill 1 1;wind 10;", 3, 14);
        fault("hill 1 1;" + "person 0;".repeat(7), 4, 63);
        fault(TWO + "names 0 1 at 0;".repeat(9), 4, 27 + 8 * 15);
        fault(TWO + "names 0 1 at 0;".repeat(8) + "names;", 4, 147);
    }

    private static void promise4Laws() {
        fault("hill 1 1;gaps : gap;", 2, 16);
        fault("hill 1 1;pitch : minute;", 2, 17);
        fault("hill 1 1;gaps : 1 = 1;", 2, 18);
        fault("hill 1 1;answers : 1;", 2, 20);
        fault("hill 1 1;answers : 1 < 2 < 3;", 2, 25);
        fault("hill 1 1;answers : (1 < 2);", 2, 22);
        fault("hill 1 1;gaps : - 1;", 2, 16);
        fault("hill 1 1;gaps : if 1 = 1 then 1 else 2;", 2, 38);
        fault("hill 1 1;gaps : " + "(".repeat(7) + "1" + ")".repeat(7) + ";", 4, 22);
        fault("hill 1 1;answers : " + "not ".repeat(7) + "1=1;", 4, 43);
        fault("hill 1 1;answers : not [ not [ ( if [ 1 = 1 ] then 1 else 2 end ) = 1 ] ];", 4, 36);
        fault("hill 1 1;gaps : ((((((1 (", 2, 24);
        fault("hill 1 1;gaps : 1 +", 2, 19);
        fault("hill 1 1;gaps : 1 + %", 1, 20);
        due("4: six nested", read(new HiccupHill(),
            "hill 1 1;answers : not [ not [ ( if 1 = 1 then 1 else 2 end ) = 1 ] ] and not [ 1 = 1 ];"), 2);
        due("4: six and six", read(new HiccupHill(), "hill 1 1;gaps : ((((((1)))))) + ((((((2))))));"), 2);
        due("4: 900 tokens", read(new HiccupHill(), ";".repeat(900)), -32);
        HiccupHill full = hill("hill 1 8;person 0;person 7;gaps:1" + "+1".repeat(427) + "-411;wind 1;");
        due("4: a long law", full.between(0, 1, 0), 17);
        due("4: no blanks", read(new HiccupHill(), "hill1 1;person0loud1voice2;gaps:if 1=1then 2else 3end;"), 3);
    }

    private static void promise4() {
        HiccupHill x = new HiccupHill();
        due("4: ahead of all", x.fault(0), 0);
        due("4: no place ahead of all", x.fault(1), -1);
        read(x, "hill 1 1;wind 10;");
        x.hill(1);
        due("4: hill() that isn't read leaves it", x.fault(0), 3);
        due("4: its place stays", x.fault(1), 14);
        due("4: other", x.fault(2), -1);
        due("4: other below", x.fault(-1), -1);
        read(x, "hill 1 1;");
        due("4: none then", x.fault(0), 0);
        due("4: no place then", x.fault(1), -1);
        promise4Kinds();
        promise4Laws();
    }

    private static void promise5() {
        HiccupHill x = hill("hill 2 2;person 3 loud 1 deaf 2 voice 3 loud 9;person 0;");
        int[] first = {3, 9, 2, 3, -2};
        for (int what = 0; what < first.length; what++) {
            due("5: person 0, " + what, x.person(0, what), first[what]);
        }
        due("5: person 1", x.person(1, 1), 0);
        due("5: below", x.person(0, -1), -2);
        due("5: no such", x.person(2, 0), -2);
        due("5: no such below", x.person(-1, 0), -2);
    }

    private static void promise6() {
        HiccupHill x = hill(THREE + "names 1 0 at 99 sure 3 sure 0;");
        int[] third = {1, 0, 99, 0, 1};
        for (int what = 0; what < third.length; what++) {
            due("6: naming 3, " + what, x.naming(3, what), third[what]);
        }
        due("6: sure", x.naming(0, 3), 10);
        due("6: said", x.naming(0, 4), 1);
        due("6: one with a hiccup says nothing", x.naming(1, 4), 0);
        due("6: said too", x.naming(2, 4), 1);
        due("6: no such", x.naming(4, 0), -2);
        due("6: no such below", x.naming(-1, 0), -2);
        due("6: no such what", x.naming(0, 5), -2);
        due("6: no such what below", x.naming(0, -1), -2);
    }

    private static int gapBy(String law) {
        return hill("hill 8 8;person 0 loud 3 voice 5;person 63 deaf 4;wind 6;gaps : " + law + ";").between(0, 1, 0);
    }

    private static int pitchBy(String law) {
        return hill("hill 8 8;person 0 loud 3 voice 5;person 63 deaf 4;wind 6;pitch : " + law + ";").between(0, 1, 1);
    }

    private static void promise7() {
        HiccupHill x = hill("hill 8 8;person 0 voice 5;person 63;person 10;");
        due("7: gap", x.between(0, 1, 0), 15);
        due("7: pitch", x.between(0, 1, 1), 5);
        due("7: far", x.between(0, 1, 2), 14);
        due("7: far by rows and columns", x.between(2, 0, 2), 3);
        due("7: pitch of the other", x.between(1, 0, 1), 0);
        int[][] none = {{0, 0, 0}, {0, 3, 0}, {3, 0, 0}, {-1, 0, 0}, {0, -1, 0}, {0, 1, 3}, {0, 1, -1}};
        for (int[] n : none) {
            due("7: none such", x.between(n[0], n[1], n[2]), -2);
        }
        due("7: 1 at least", gapBy("0 - 5"), 1);
        due("7: 20 at most", gapBy("21"), 20);
        due("7: gap by names", gapBy("who + whom * 2 + far - 14 + loud - deaf + voice + wind"), 12);
        due("7: times ahead of plus", gapBy("2 + 3 * 4"), 14);
        due("7: from the left", gapBy("9 - 3 - 2"), 4);
        due("7: brackets", gapBy("9 - (3 - 2)"), 8);
        due("7: 0 at least", pitchBy("0 - 1"), 0);
        due("7: 9 at most", pitchBy("10"), 9);
        due("7: kept above", pitchBy("999 * 999 * 2 - 999 * 999 - 999 - 996"), 4);
        due("7: kept below", pitchBy("0 - 999 * 999 - 999 * 999 + 999 * 999 + 999 + 999 + 6"), 5);
        due("7: if", pitchBy("if wind > 5 and not far = 14 or [who < whom] then 3 else 4 end"), 3);
        due("7: else", pitchBy("if not [who < whom] then 3 else 4 end"), 4);
        due("7: and ahead of or", pitchBy("if 1=1 or 1=1 and 1=2 then 3 else 4 end"), 3);
        due("7: the later law counts", gapBy("2;gaps : 3"), 3);
        HiccupHill y = hill("hill 1 8;person 0;person 7;gaps : far + 14;");
        due("7: as they are now", y.between(0, 1, 0), 20);
        y.move(1, 1);
        due("7: as they are then", y.between(0, 1, 0), 15);
    }

    private static void promise8() {
        HiccupHill x = hill(THREE);
        due("8: told", x.tell(2, 1, 99), 4);
        due("8: who", x.naming(3, 0), 2);
        due("8: whom", x.naming(3, 1), 1);
        due("8: minute", x.naming(3, 2), 99);
        due("8: sure", x.naming(3, 3), 10);
        int[][] bad = {{0, 0, 5}, {0, 3, 5}, {3, 0, 5}, {-1, 0, 5}, {0, -1, 5}, {0, 1, 100}, {0, 1, -1}};
        for (int[] b : bad) {
            due("8: why not", x.tell(b[0], b[1], b[2]), -11);
        }
        for (int n = 5; n <= 8; n++) {
            due("8: more", x.tell(0, 1, 0), n);
        }
        due("8: there are 8", x.tell(0, 1, 0), -12);
        due("8: no such ahead of that", x.tell(0, 0, 0), -11);
        due("8: undone by five", x.count(5), 5);
        due("8: eight", x.count(3), 8);
    }

    private static void promise9() {
        HiccupHill x = hill(THREE);
        due("9: hiccups ahead", x.hiccups(-1), 2);
        due("9: dropped", x.drop(0), 2);
        due("9: the later is one less", x.naming(0, 2), 12);
        due("9: said now", x.naming(0, 4), 1);
        due("9: no such", x.drop(2), -11);
        due("9: below", x.drop(-1), -11);
        due("9: one", x.drop(1), 1);
        due("9: zero", x.drop(0), 0);
        due("9: none is left", x.drop(0), -11);
        due("9: undoing brings back", x.undo(3), 0);
        due("9: all of it", x.naming(2, 2), 11);
    }

    private static void promise10() {
        HiccupHill x = hill(THREE);
        due("10: moved", x.move(0, 3), 0);
        due("10: there", x.person(0, 0), 3);
        due("10: as it is", x.move(0, 3), 3);
        due("10: both can be undone", x.count(5), 2);
        due("10: no cell", x.move(0, 5), -11);
        due("10: no cell below", x.move(0, -1), -11);
        due("10: nobody", x.move(3, 0), -11);
        due("10: nobody below", x.move(-1, 0), -11);
        due("10: a cell of two", x.move(0, 4), 3);
        due("10: gap then", x.between(0, 2, 0), 1);
    }

    private static void promise11() {
        HiccupHill x = hill("hill 1 1;wind 3;wind 4;");
        due("11: was", x.wind(9), 4);
        due("11: is", x.count(4), 9);
        due("11: was again", x.wind(0), 9);
        due("11: above", x.wind(10), -11);
        due("11: below", x.wind(-1), -11);
        due("11: two", x.count(5), 2);
    }

    private static void promise12() {
        HiccupHill x = hill("hill 1 1;");
        for (int i = 1; i <= 9; i++) {
            x.wind(i);
        }
        x.wind(0);
        due("12: ten", x.count(5), 10);
        x.wind(5);
        x.wind(6);
        due("12: ten at most", x.count(5), 10);
        due("12: zero", x.undo(0), -3);
        due("12: eleven", x.undo(11), -3);
        due("12: below", x.undo(-1), -3);
        due("12: three", x.undo(3), 7);
        due("12: as it was", x.count(4), 9);
        due("12: more than can be", x.undo(8), -3);
        due("12: all", x.undo(7), 0);
        due("12: the eldest are forgotten", x.count(4), 2);
        due("12: none is left", x.undo(1), -3);
    }

    private static void promise13() {
        HiccupHill x = hill(THREE);
        int[][] none = {{4, 0}, {-1, 0}, {0, 4}, {0, -1}};
        for (int[] n : none) {
            due("13: none such", x.judge(n[0], n[1]), -2);
        }
        due("13: missing", x.judge(0, 0), -6);
        tray(x, 0);
        int[] empty = {-1, 0, 2, 4};
        for (int what = 0; what < 4; what++) {
            due("13: no deeds, " + what, x.judge(0, what), empty[what]);
        }
        tray(x, 0, 8000, 8104, 9003, 1850, 8003, 9000);
        // Person 0 is beside person 2 then; 1 has no hiccup at 12 and names 2, and 2 names 0.
        int[] some = {3, 1, 2, 2};
        for (int what = 0; what < 4; what++) {
            due("13: some deeds, " + what, x.judge(0, what), some[what]);
        }
        due("13: nothing is done", x.count(3) * 100 + x.person(0, 0) * 10 + x.count(4), 300);
        tray(x, 1, 1050, 1050, 1050, 1050, 1050, 1050);
        due("13: the ninth", x.judge(1, 0), 5);
        due("13: why", x.judge(1, 1), 2);
        long[] never = {-1, 8010, 8099, 9010, 10000, 8300 + 100, 8105, 1800, 100000001050L, 7, 200};
        for (long v : never) {
            tray(x, 2, v);
            due("13: why not " + v, x.judge(2, 1), v == 200 ? 0 : 1);
        }
    }

    private static void promise14() {
        HiccupHill x = hill(THREE);
        due("14: no tray", x.perform(4), -2);
        due("14: no tray below", x.perform(-1), -2);
        due("14: missing", x.perform(3), -6);
        tray(x, 3);
        due("14: nothing", x.perform(3), 0);
        tray(x, 3, 8003, 9001);
        due("14: not the first", x.perform(3), 0);
        due("14: nothing to undo", x.count(5), 0);
        tray(x, 3, 2033, 8000, 8203, 9007, 9010, 9008);
        due("14: four", x.perform(3), 4);
        due("14: namings", x.count(3), 3);
        due("14: told", x.naming(2, 2), 33);
        due("14: moved", x.person(1, 0), 3);
        due("14: wind", x.count(4), 7);
        due("14: undone as one", x.undo(1), 0);
        due("14: wind again", x.count(4), 0);
        long[] forty = new long[40];
        for (int i = 0; i < 40; i++) {
            forty[i] = 9000 + i % 10;
        }
        tray(x, 2, forty);
        due("14: judged forty", x.judge(2, 0), -1);
        due("14: forty", x.perform(2), 40);
        due("14: forty undone as one", x.undo(1), 0);
        due("14: cell again", x.person(1, 0), 1);
        due("14: naming again", x.naming(0, 2), 10);
    }

    private static void promise15() {
        HiccupHill x = new HiccupHill();
        due("15: no times", x.week(1, 0), -3);
        due("15: too many", x.week(1, 41), -3);
        due("15: below", x.week(1, -1), -3);
        due("15: none can be", x.week(0, 2), 0);
        due("15: nothing to undo", x.count(5), 0);
        due("15: it goes on behind", x.week(0, 3), 1);
        due("15: wind 0 is undone as well", x.count(5), 1);
        due("15: wind 7", x.week(Integer.MAX_VALUE, 1), 1);
        due("15: it blows", x.count(4), 7);
        HiccupHill y = hill("hill 8 8;" + "person 0;".repeat(6));
        due("15: three moves and a naming", y.week(1, 4), 4);
        due("15: moved 0", y.person(0, 0), 1);
        due("15: moved 3", y.person(3, 0), 59);
        due("15: moved 5", y.person(5, 0), 20);
        due("15: told", y.naming(0, 0) * 1000 + y.naming(0, 1) * 100 + y.naming(0, 2), 1584);
        due("15: below zero: no, no, moved, told", y.week(-1, 4), 2);
        due("15: none was dropped", y.count(3), 2);
        due("15: told 0 2", y.naming(1, 2), 73);
        due("15: undone as one", y.undo(1), 1);
        due("15: as it was", y.count(3), 1);
    }

    private static void promise16() {
        HiccupHill x = hill(LADDER);
        due("16: all", x.hiccups(-1), 50);
        due("16: of 0", x.hiccups(0), 24);
        due("16: of 1", x.hiccups(1), 26);
        due("16: no such", x.hiccups(2), -2);
        due("16: below", x.hiccups(-2), -2);
        HiccupHill y = hill(TWO + "names 0 1 at 99;names 0 1 at 98 sure 0;");
        due("16: none behind 99, and as if sure", y.hiccups(1), 1);
        due("16: at 99", y.minute(1, 0), 99);
        due("16: fifty by fifty", hill("hill 1 1;person 0;person 0;gaps:1;answers:1=1;"
            + "names 0 1 at 0;".repeat(8)).hiccups(-1), 400);
    }

    private static void promise17() {
        HiccupHill x = hill(THREE);
        int[][] all = {{1, 12, 0, 2, 2}, {0, 16, 2, 4, 5}};
        for (int k = 0; k < 2; k++) {
            for (int what = 0; what < 5; what++) {
                due("17: hiccup " + k + ", " + what, x.hiccup(k, what), all[k][what]);
            }
        }
        due("17: not so many", x.hiccup(2, 0), -1);
        due("17: what", x.hiccup(0, 5), -2);
        due("17: what below", x.hiccup(0, -1), -2);
        due("17: what ahead of NONE", x.hiccup(2, 5), -2);
        due("17: below", x.hiccup(-1, 0), -3);
        due("17: what first", x.hiccup(-1, 5), -2);
        String line = "hill 1 3;person 0;person 2;person 1;";
        HiccupHill y = hill(line + "names 2 1 at 1;names 0 1 at 0;");
        due("17: as said: the first", y.hiccup(0, 2), 0);
        due("17: as said: the second", y.hiccup(1, 2), 2);
        due("17: in one minute", y.hiccup(0, 1) - y.hiccup(1, 1), 0);
        HiccupHill z = hill(line + "names 2 1 at 1;names 2 0 at 1;");
        due("17: by number in a minute", z.hiccup(0, 0), 1);
        due("17: by number in a minute, then", z.hiccup(1, 0), 0);
        HiccupHill w = hill(TWO + "person 0;names 1 0 at 4;names 1 2 at 5;gaps:1;answers:whom=0;");
        due("17: namings ahead of answers", w.hiccup(1, 0), 2);
        due("17: answers then", w.hiccup(2, 0), 1);
        due("17: of the one who answers", w.hiccup(2, 2), 0);
        due("17: the minute behind and the gap", w.hiccup(2, 1), 7);
    }

    private static void promise18() {
        HiccupHill x = hill(LADDER);
        int[] of1 = {1, 2, 6, 10};
        for (int i = 0; i < of1.length; i++) {
            due("18: of 1, " + i, x.minute(1, i), of1[i]);
        }
        due("18: the last", x.minute(1, 25), 98);
        due("18: not so many", x.minute(1, 26), -1);
        due("18: no such", x.minute(2, 0), -2);
        due("18: no such, below", x.minute(-1, 0), -2);
        due("18: below", x.minute(1, -1), -3);
        due("18: no such first", x.minute(2, -1), -2);
    }

    private static void promise19() {
        HiccupHill x = hill(LADDER + "names 0 1 at 97;");
        due("19: none", x.crowd(0), 0);
        due("19: one", x.crowd(1), 1);
        due("19: two", x.crowd(98), 2);
        due("19: last", x.crowd(99), 0);
        due("19: above", x.crowd(100), -3);
        due("19: below", x.crowd(-1), -3);
    }

    private static void promise20() {
        due("20: none", hill(TWO).worst(), -1);
        due("20: most", hill(LADDER + "names 0 1 at 97;").worst(), 98);
        due("20: the first", hill(LADDER).worst(), 1);
        due("20: the first of two", hill(TWO + "names 0 1 at 9;names 0 1 at 4;names 0 1 at 9;names 0 1 at 4;").worst(), 5);
    }

    private static int answersBy(String law) {
        return hill("hill 1 2;person 0 loud 7 voice 4;person 1 deaf 3;names 0 1 at 3;wind 6;answers : " + law + ";")
            .answers(1);
    }

    private static void promise21() {
        HiccupHill x = hill(LADDER);
        due("21: of 1", x.answers(1), 25);
        due("21: of 0", x.answers(0), 24);
        due("21: no such", x.answers(2), -2);
        due("21: below", x.answers(-1), -2);
        due("21: without a law", hill(THREE).answers(1), 0);
        String of = "who = 0 and whom = 1 and far = 1 and loud = 7 and deaf = 3 and voice = 4 and wind = 6";
        due("21: as of the naming", answersBy(of), 1);
        due("21: gap and minute", answersBy("gap = 2 and minute = 5"), 1);
        due("21: not so", answersBy("minute = 6"), 0);
        HiccupHill y = hill("hill 1 2;person 0;person 1;names 0 1 at 90;answers : 0 = 0;");
        due("21: said at 93 and 99", y.answers(1), 2);
        due("21: said at 96", y.answers(0), 1);
        due("21: hiccups of these", y.hiccups(-1), 3);
    }

    private static void promise22() {
        due("22: nobody", new HiccupHill().nobody(), 0);
        due("22: one", hill(THREE).nobody(), 4);
        due("22: none", hill(LADDER).nobody(), 0);
        due("22: all", hill("hill 1 1;" + "person 0;".repeat(6)).nobody(), 63);
    }

    private static void promise23() {
        HiccupHill x = hill("hill 3 3;person 4;person 0 voice 2;person 8 voice 2;person 1 voice 2;person 2 voice 3;");
        due("23: both", x.who(0, 3, 2), 6);
        due("23: one", x.who(0, 2, 2), 8);
        due("23: by pitch", x.who(0, 3, 3), 16);
        due("23: none", x.who(0, 20, 9), 0);
        due("23: no such", x.who(5, 3, 2), -2);
        due("23: below", x.who(-1, 3, 2), -2);
        int[][] bad = {{0, 2}, {21, 2}, {3, -1}, {3, 10}};
        for (int[] b : bad) {
            due("23: a number", x.who(0, b[0], b[1]), -3);
        }
        due("23: no such first", x.who(5, 0, 0), -2);
        x.move(3, 0);
        due("23: as they are now", x.who(0, 3, 2), 14);
    }

    private static void promise24() {
        HiccupHill x = hill(TWO + "person 0;");
        due("24: two", x.stops(0, 5), 2);
        due("24: nothing is ahead", x.stops(0, 0), 0);
        due("24: no such", x.stops(3, 0), -2);
        due("24: below", x.stops(-1, 0), -2);
        due("24: minute above", x.stops(0, 100), -3);
        due("24: minute below", x.stops(0, -1), -3);
        HiccupHill y = hill(TWO + "names 0 1 at 4;".repeat(8));
        due("24: be there 8", y.stops(0, 9), 1);
        due("24: it has one anyhow", y.stops(1, 5), 100);
        due("24: who has a hiccup can't say it", y.stops(0, 6), 0);
        due("24: it changes nothing", y.count(3) * 10 + y.count(5), 80);
        HiccupHill z = hill(TWO + "gaps:1;answers:1=1;");
        // 0 is named at 8, or at 4 with the answer at 6 and so on, or it names back: at 0, 4, 8 of 9
        due("24: by answers", z.stops(0, 9), 3);
    }

    private static void promise25() {
        HiccupHill x = hill(TWO + "person 0;");
        due("25: first", x.stopBy(0, 5, 0), 401);
        due("25: second", x.stopBy(0, 5, 1), 402);
        due("25: not so many", x.stopBy(0, 5, 2), -1);
        due("25: no such", x.stopBy(3, 5, 0), -2);
        due("25: minute above", x.stopBy(0, 100, 0), -3);
        due("25: minute below", x.stopBy(0, -1, 0), -3);
        due("25: i below", x.stopBy(0, 5, -1), -3);
        due("25: no such first", x.stopBy(-1, 5, -1), -2);
        HiccupHill y = hill(TWO + "names 0 1 at 4;");
        due("25: anyhow, first", y.stopBy(1, 5, 0), 0);
        due("25: anyhow, last", y.stopBy(1, 5, 99), 9900);
        due("25: anyhow, no more", y.stopBy(1, 5, 100), -1);
    }

    private static void promise26() {
        HiccupHill x = hill("hill 1 5;person 0;person 4;names 0 1 at 97;names 1 0 at 95;");
        due("26: where 0 has a hiccup itself", x.quiet(1, 0), 1);
        due("26: none there", x.quiet(1, 1), 0);
        due("26: where it is", x.quiet(0, 0), 0);
        due("26: none", x.quiet(0, 1), 0);
        due("26: no such", x.quiet(2, 0), -2);
        due("26: below", x.quiet(-1, 0), -2);
        due("26: what", x.quiet(0, 2), -2);
        due("26: what below", x.quiet(0, -1), -2);
        due("26: it doesn't move", x.person(1, 0), 4);
        HiccupHill y = hill("hill 2 2;person 3;person 0;names 1 0 at 1;names 1 0 at 2;");
        due("26: the first of like ones", y.quiet(0, 0), 0);
        due("26: two of them", y.quiet(0, 1), 2);
    }

    private static void promise27() {
        HiccupHill x = hill("hill 3 3;person 0;person 0;person 8;");
        due("27: between both", x.atOnce(0, 6), 3);
        due("27: itself aside", x.atOnce(0, 7), 3);
        due("27: itself alone", x.atOnce(0, 1), 0);
        due("27: no one", x.atOnce(0, 0), 0);
        due("27: one", x.atOnce(0, 2), 9);
        due("27: others are in it", x.atOnce(0, 8), -3);
        due("27: others, below", x.atOnce(0, -1), -3);
        due("27: no such", x.atOnce(3, 1), -2);
        due("27: no such below", x.atOnce(-1, 1), -2);
        due("27: by a law", hill("hill 3 3;person 0;person 0;person 8;gaps:7;").atOnce(0, 6), 9);
    }

    private static void silence(String text, int p, int fewest, int first, int second) {
        HiccupHill x = hill(text);
        due("28: how many of " + text, x.silence(p, 0), fewest);
        due("28: the first of " + text, x.silence(p, 1), first);
        due("28: the second of " + text, x.silence(p, 2), second);
        due("28: nothing changes", x.count(5), 0);
    }

    private static void promise28() {
        silence(TWO, 0, 0, -1, -1);
        silence(TWO + "names 0 1 at 10;", 0, 1, 901, -1);
        silence(TWO + "names 0 1 at 10;", 1, 0, -1, -1);
        silence(TWO + "names 0 1 at 10;names 0 1 at 15;", 0, 2, 901, 1401);
        silence(TWO + "names 0 1 at 15;names 0 1 at 10;", 0, 2, 901, 1401);
        silence(TWO + "names 0 1 at 10;names 0 1 at 15;names 0 1 at 18;", 0, -1, -1, -1);
        silence(TWO + "names 0 1 at 10;".repeat(8), 0, 1, 901, -1);
        silence(TWO + "names 0 1 at 0;", 0, -1, -1, -1);
        silence(TWO + "names 0 1 at 20;", 0, 1, 1901, -1);
        silence(TWO + "names 0 1 at 21;", 0, -1, -1, -1);
        silence(TWO + "names 0 1 at 21;gaps:2;", 0, 1, 1901, -1);
        silence(TWO + "person 0;names 0 1 at 10;gaps: if who = 1 then 2 else 1 end;", 0, 1, 801, -1);
        silence(TWO + "names 1 0 at 9;names 0 1 at 10;", 0, 0, -1, -1);
        // the answer of 0 is no naming of its own
        silence(TWO + "names 1 0 at 9;gaps:1;answers:1=1;", 0, 0, -1, -1);
        HiccupHill x = hill(TWO + "names 0 1 at 10;");
        due("28: no such", x.silence(2, 0), -2);
        due("28: below", x.silence(-1, 0), -2);
        due("28: what", x.silence(0, 3), -2);
        due("28: what below", x.silence(0, -1), -2);
        x.drop(0);
        due("28: as told now", x.silence(0, 0), 0);
    }

    private static void promise29() {
        HiccupHill x = hill(SQUARE);
        due("29: no tray", x.heard(4, 0), -2);
        due("29: no tray below", x.heard(-1, 0), -2);
        due("29: nobody", x.heard(0, 3), -2);
        due("29: nobody ahead of missing", x.heard(0, -1), -2);
        due("29: missing", x.heard(0, 0), -6);
        tray(x, 0);
        due("29: none told", x.heard(0, 0), -4);
        tray(x, 0, 103, 103, 103, 103, 103, 103);
        due("29: six", x.heard(0, 0), 3);
        tray(x, 0, 103, 103, 103, 103, 103, 103, 103);
        due("29: seven", x.heard(0, 0), -4);
        tray(x, 0, 103, 203);
        due("29: both", x.heard(0, 0), 1);
        tray(x, 0, 103, 104);
        due("29: neither", x.heard(0, 0), 0);
        long[] bad = {3, 100, 121, 303, -1, -103, Long.MIN_VALUE, Long.MAX_VALUE, 600000000103L};
        for (long v : bad) {
            tray(x, 0, 103, v);
            due("29: a number " + v, x.heard(0, 0), -3);
        }
        tray(x, 0, 1, 201);
        due("29: another one asked", x.heard(0, 1), 0);
    }

    private static void promise30() {
        HiccupHill x = hill(SQUARE);
        due("30: no tray", x.heardAt(4, 0, 0), -2);
        due("30: missing", x.heardAt(0, 0, -1), -6);
        tray(x, 0, 103);
        int[] all = {2, 4, 6, -1};
        for (int i = 0; i < all.length; i++) {
            due("30: cell " + i, x.heardAt(0, 0, i), all[i]);
        }
        due("30: below", x.heardAt(0, 0, -1), -3);
        due("30: nobody", x.heardAt(0, 3, -1), -2);
        tray(x, 0, 104, 100);
        due("30: a number", x.heardAt(0, 0, 0), -3);
        tray(x, 0);
        due("30: none told", x.heardAt(0, 0, -1), -4);
    }

    private static void promise31() {
        HiccupHill x = hill(SQUARE);
        due("31: no tray", x.attempt(4, 0), -2);
        due("31: missing", x.attempt(0, 0), -6);
        tray(x, 0, 103);
        due("31: the one that tells most", x.attempt(0, 0), 2);
        x.move(2, 0);
        due("31: the first of like ones", x.attempt(0, 0), 1);
        tray(x, 0, 106);
        due("31: no cells", x.attempt(0, 0), -1);
        tray(x, 0, 3);
        due("31: a number", x.attempt(0, 0), -3);
        tray(x, 0);
        due("31: none told", x.attempt(0, 0), -4);
    }

    private static void promise32() {
        String gaps = "gaps : wind + 1;";
        HiccupHill x = hill(TWO + "names 0 1 at 10;" + gaps);
        due("32: no tray", x.winds(4, 0), -2);
        due("32: nobody", x.winds(0, 2), -2);
        due("32: missing", x.winds(0, 1), -6);
        tray(x, 0);
        due("32: none told", x.winds(0, 1), -4);
        tray(x, 0, 15);
        due("32: by one wind", x.winds(0, 1), 16);
        due("32: not the other one", x.winds(0, 0), 0);
        tray(x, 0, 11, 12);
        due("32: all of them", x.winds(0, 1), 0);
        tray(x, 0, 11, 100);
        due("32: no minute", x.winds(0, 1), -3);
        tray(x, 0, -1);
        due("32: no minute below", x.winds(0, 1), -3);
        tray(x, 0, 1, 1, 1, 1, 1, 1, 1, 1, 1);
        due("32: nine", x.winds(0, 1), -4);
        HiccupHill y = hill(TWO + "names 0 1 at 10;".repeat(8) + gaps);
        tray(y, 0, 15, 15, 15, 15, 15, 15, 15, 15);
        due("32: eight in one minute", y.winds(0, 1), 16);
        HiccupHill z = hill(TWO + "names 0 1 at 10;wind 3;");
        tray(z, 0, 11);
        due("32: by all winds", z.winds(0, 1), 1023);
        due("32: it blows as ahead", z.count(4), 3);
        HiccupHill late = hill(TWO + "names 0 1 at 98;");
        tray(late, 0, 99);
        due("32: to the last minute", late.winds(0, 1), 1023);
    }

    private static void promise33() {
        HiccupHill x = hill(TWO + "names 0 1 at 0 sure 3;names 0 1 at 5 sure 5;");
        due("33: above", x.chance(1, 0), 7);
        due("33: below", x.chance(1, 1), 20);
        due("33: sure", x.chance(0, 0), 1);
        due("33: sure, below", x.chance(0, 1), 1);
        due("33: no such", x.chance(2, 0), -2);
        due("33: no such below", x.chance(-1, 0), -2);
        due("33: what", x.chance(0, 2), -2);
        due("33: what below", x.chance(0, -1), -2);
        HiccupHill y = hill(TWO + "names 0 1 at 0 sure 3;names 1 0 at 1;");
        due("33: one hangs on the other", y.chance(0, 0), 3);
        due("33: one hangs on the other, below", y.chance(0, 1), 10);
        due("33: the day is as if sure", y.naming(1, 4), 0);
        HiccupHill z = hill(TWO + "names 0 1 at 0 sure 1;".repeat(8));
        due("33: eight, above", z.chance(1, 0), 43046721);
        due("33: eight, below", z.chance(1, 1), 100000000);
        z.tell(0, 1, 0);
        z.drop(0);
        z.tell(0, 1, 0);
        due("33: never then", z.chance(1, 0), 0);
        due("33: never then, below", z.chance(1, 1), 1);
        due("33: as if not told", hill(TWO + "names 0 1 at 0 sure 0;").chance(1, 0), 1);
    }

    private static void promise34() {
        HiccupHill x = hill(TWO + "names 0 1 at 0 sure 3;names 0 1 at 5 sure 5;");
        due("34: above", x.mean(1, 0), 4);
        due("34: below", x.mean(1, 1), 5);
        due("34: none", x.mean(0, 0), 0);
        due("34: none, below", x.mean(0, 1), 1);
        due("34: no such", x.mean(2, 0), -2);
        due("34: no such below", x.mean(-1, 0), -2);
        due("34: what", x.mean(0, 2), -2);
        due("34: what below", x.mean(0, -1), -2);
        HiccupHill y = hill("hill 1 1;person 0;person 0;gaps:1;answers:1=1;" + "names 0 1 at 0 sure 9;".repeat(8));
        due("34: 25 each of them, above", y.mean(1, 0), 180);
        due("34: 25 each of them, below", y.mean(1, 1), 1);
        HiccupHill z = hill(TWO + "names 0 1 at 0 sure 3;names 1 0 at 1;");
        due("34: one hangs on the other", z.mean(0, 0) * 100 + z.mean(0, 1), 710);
    }

    private static void promise35() {
        due("35: no people", new HiccupHill().famous(), -1);
        due("35: the first of like ones", hill(TWO).famous(), 0);
        due("35: on the mean", hill(TWO + "person 0;names 0 1 at 0 sure 3;names 0 2 at 0 sure 4;").famous(), 2);
        due("35: not by the day", hill(TWO + "names 0 1 at 0 sure 3;names 0 1 at 3 sure 3;names 1 0 at 9 sure 7;")
            .famous(), 0);
    }

    private static void promise36() {
        HiccupHill x = new HiccupHill();
        int[][] none = {{4, 0}, {-1, 0}, {0, 4}, {0, -1}};
        for (int[] n : none) {
            due("36: none such", x.numbers(n[0], n[1], 1), -2);
        }
        due("36: below", x.numbers(0, 0, -1), -3);
        due("36: above", x.numbers(0, 0, 41), -3);
        due("36: none such first", x.numbers(4, 0, 41), -2);
        due("36: still missing", x.write(0, 0, 1), -6);
        due("36: forty", x.numbers(0, 3, 40), 0);
        due("36: the last", x.write(0, 39, 9001), 9001);
        due("36: above again", x.numbers(0, 0, 41), -3);
        due("36: it stays", x.write(0, 38, 1000), 1000);
        due("36: none", x.numbers(0, 3, 0), 0);
        due("36: none is there", x.write(0, 0, 1), -7);
        HiccupHill y = hill("hill 1 1;wind 4;");
        tray(y, 0, 9001, 9001);
        y.numbers(0, 1, 2);
        due("36: all 0", y.judge(0, 0), 0);
    }

    private static void promise37() {
        HiccupHill x = new HiccupHill();
        due("37: no tray", x.write(4, 0, 1), -2);
        due("37: no tray below", x.write(-1, 0, 1), -2);
        due("37: missing", x.write(2, 0, 1), -6);
        long v = 0x123456789abcdef0L;
        long[] cut = {(byte) v, (short) v, (int) v, v};
        for (int sort = 0; sort < 4; sort++) {
            x.numbers(2, sort, 2);
            due("37: sort " + sort, x.write(2, 1, v), cut[sort]);
            due("37: below 0, sort " + sort, x.write(2, 0, -1), -1);
            due("37: no number", x.write(2, 2, 1), -7);
            due("37: no number below", x.write(2, -1, 1), -7);
        }
        x.numbers(2, 0, 1);
        due("37: 128 of 8 bits", x.write(2, 0, 128), -128);
        due("37: 256 of 8 bits", x.write(2, 0, 256), 0);
    }

    private static void promise38() {
        HiccupHill x = hill(TWO + "names 0 1 at 10;names 0 1 at 12;names 0 1 at 12;");
        due("38: no tray", x.lists(4, 0), -2);
        due("38: nobody", x.lists(0, 2), -2);
        due("38: missing", x.lists(0, 1), -6);
        x.numbers(0, 0, 3);
        due("38: none", x.lists(0, 0), 0);
        due("38: all", x.lists(0, 1), 3);
        due("38: as they come", x.winds(0, 1), 1023);
        x.numbers(1, 1, 2);
        due("38: as far as it has places", x.lists(1, 1), 2);
        due("38: no more", x.winds(1, 1), 0);
        x.numbers(1, 1, 4);
        due("38: fewer than places", x.lists(1, 1), 3);
        due("38: no place", new HiccupHill().lists(0, -1), -2);
    }

    private static void promise39() {
        HiccupHill x = hill(THREE);
        due("39: none such", x.image(2), -2);
        due("39: none such below", x.image(-1), -2);
        x.wind(3);
        due("39: made", x.image(1), 0);
        due("39: the calls can still be undone", x.count(5), 1);
        x.wind(4);
        due("39: made anew", x.image(1), 0);
        x.wind(5);
        x.restore(1);
        due("39: the later one", x.count(4), 4);
        due("39: not the other", x.restore(0), -5);
    }

    private static void promise40() {
        HiccupHill x = hill(THREE + "gaps : 7;");
        due("40: none such", x.restore(2), -2);
        due("40: none such below", x.restore(-1), -2);
        due("40: none was made", x.restore(0), -5);
        x.tell(0, 1, 50);
        x.image(0);
        read(x, "hill 8 8;wind 3;");
        x.wind(4);
        due("40: restored", x.restore(0), 0);
        int[] counts = {1, 5, 3, 4, 0, 0, 0, 8};
        for (int what = 0; what < counts.length; what++) {
            due("40: count " + what, x.count(what), counts[what]);
        }
        due("40: laws", x.between(0, 1, 0), 7);
        due("40: voice", x.between(0, 1, 1), 2);
        due("40: namings", x.naming(3, 2), 50);
        due("40: nothing to undo", x.undo(1), -3);
        x.move(0, 4);
        due("40: again", x.restore(0), 0);
        due("40: cells", x.person(0, 0), 0);
        read(x, "hill 1 1;wind 10;");
        x.restore(0);
        due("40: the fault isn't the hill's", x.fault(0), 3);
    }

    private static void promise41() {
        HiccupHill x = hill("hill 4 3;person 11;person 0;names 0 1 at 7;wind 6;");
        x.wind(8);
        x.feed(1, 2, 3, 4, 5);
        int[] counts = {4, 3, 2, 1, 8, 1, 20, 5};
        for (int what = 0; what < counts.length; what++) {
            due("41: count " + what, x.count(what), counts[what]);
        }
        due("41: other", x.count(8), -1);
        due("41: other below", x.count(-1), -1);
    }

    private static void first() {
        promise1();
        promise2();
        promise3();
        promise4();
        promise5();
        promise6();
        promise7();
        promise8();
        promise9();
        promise10();
        promise11();
        promise12();
        promise13();
        promise14();
        promise15();
    }

    private static void second() {
        promise16();
        promise17();
        promise18();
        promise19();
        promise20();
        promise21();
        promise22();
        promise23();
        promise24();
        promise25();
        promise26();
        promise27();
        promise28();
    }

    private static void third() {
        promise29();
        promise30();
        promise31();
        promise32();
        promise33();
        promise34();
        promise35();
        promise36();
        promise37();
        promise38();
        promise39();
        promise40();
        promise41();
    }

    public static void main(String[] args) {
        first();
        second();
        third();
        System.out.println(checks + " checks of the promises, " + wrong + " wrong");
        if (wrong != 0) {
            System.exit(1);
        }
    }
}
