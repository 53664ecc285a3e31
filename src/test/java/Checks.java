import java.util.function.IntToLongFunction;

/** What tests of single answers have in common: hills from texts, trays from numbers, the answers that are due. */
abstract class Checks {
    static final String TWO = "hill 1 1;person 0;person 0;";
    static int checks;
    static int wrong;

    static void due(String what, long got, long want) {
        checks++;
        if (got != want) {
            wrong++;
            System.out.println(what + ": answered " + got + ", due is " + want);
        }
    }

    /** The answers to 0, 1 and so on. */
    static void row(String what, IntToLongFunction call, int... want) {
        for (int i = 0; i < want.length; i++) {
            due(what + ", " + i, call.applyAsLong(i), want[i]);
        }
    }

    /** Each naming by what is told of it, as far as it is told here; there are no more. */
    static void namings(HiccupHill x, int[]... all) {
        for (int i = 0; i < all.length; i++) {
            int k = i;
            row("NAMING " + k, what -> x.naming(k, what), all[k]);
        }
        due("NAMING " + all.length, x.naming(all.length, 0), -2);
    }

    /** The call answers with the code to each of these, and to the least and the greatest of all ints. */
    static void refused(String what, int code, IntToLongFunction call, int... bad) {
        for (int n : bad) {
            due(what + " " + n, call.applyAsLong(n), code);
        }
        due(what + ": the least", call.applyAsLong(Integer.MIN_VALUE), code);
        due(what + ": the greatest", call.applyAsLong(Integer.MAX_VALUE), code);
    }

    /** The last feed is filled up with a letter that no token begins with. */
    static int feed(HiccupHill x, String text) {
        StringBuilder b = new StringBuilder(text);
        while (b.length() % 20 != 0) {
            b.append('Z');
        }
        int fed = 0;
        for (int i = 0; i < b.length(); i += 20) {
            int[] v = new int[5];
            for (int k = 0; k < 20; k++) {
                v[k / 4] = v[k / 4] << 8 | b.charAt(i + k) & 255;
            }
            fed = x.feed(v[0], v[1], v[2], v[3], v[4]);
        }
        return fed;
    }

    static int read(HiccupHill x, String text) {
        feed(x, text);
        return x.hill(text.length());
    }

    static HiccupHill hill(String text) {
        HiccupHill x = new HiccupHill();
        int lines = read(x, text);
        if (lines < 1) {
            due("a hill of this test: " + text, lines, 1);
        }
        return x;
    }

    static void fault(String text, int kind, int place) {
        HiccupHill x = new HiccupHill();
        due("hill() of " + text, read(x, text), -30 - kind);
        due("fault(0) of " + text, x.fault(0), kind);
        due("fault(1) of " + text, x.fault(1), place);
    }

    static void tray(HiccupHill x, int tray, long... all) {
        due("numbers()", x.numbers(tray, 3, all.length), 0);
        for (int i = 0; i < all.length; i++) {
            due("write()", x.write(tray, i, all[i]), all[i]);
        }
    }
}
