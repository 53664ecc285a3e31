/** A hill of three people, told as a text, and some of what can be asked of it. */
public final class Example {
    public static void main(String[] args) {
        HiccupHill x = new HiccupHill();
        String text = "hill 2 3; person 0 loud 2 voice 4; person 5 deaf 1; person 1;"
            + "names 0 1 at 3; names 1 2 at 9 sure 5; gaps: far + loud - deaf; answers: minute < 50 and loud > 0;";
        System.out.println("lines: " + read(x, text));
        for (int k = 0; k < x.hiccups(HiccupHill.NONE); k++) {
            System.out.println("minute " + x.hiccup(k, 1) + ": person " + x.hiccup(k, 0) + " has a hiccup of person "
                + x.hiccup(k, 2) + ", gap " + x.hiccup(k, 4) + ", pitch " + x.hiccup(k, 3));
        }
        System.out.println("nobody, as bits: " + x.nobody());
        System.out.println("person 2 is nobody as likely as " + x.chance(2, 0) + "/" + x.chance(2, 1));
        System.out.println("namings by which person 1 says nothing: " + x.silence(1, 0) + ", " + x.silence(1, 1));

        System.out.println("told, namings: " + x.tell(2, 1, 8));
        System.out.println("is naming 1 said: " + x.naming(1, 4));
        System.out.println("undone, still can be: " + x.undo(1));

        x.numbers(0, 1, 2);
        x.write(0, 0, 2108);
        x.write(0, 1, 9010);
        System.out.println("judged, the first that can't be: " + x.judge(0, 0) + ", why: " + x.judge(0, 1));
        System.out.println("performed: " + x.perform(0));

        System.out.println("a text with a fault: " + read(x, "hill 2 9;") + ", at " + x.fault(1));
        System.out.println("no such person: " + x.hiccups(3));
    }

    /** Twenty bytes a call, in ints of four bytes, the highest first; what is fed behind the text isn't read. */
    private static int read(HiccupHill x, String text) {
        for (int i = 0; i < text.length(); i += 20) {
            x.feed(four(text, i), four(text, i + 4), four(text, i + 8), four(text, i + 12), four(text, i + 16));
        }
        return x.hill(text.length());
    }

    private static int four(String text, int from) {
        int bytes = 0;
        for (int i = from; i < from + 4; i++) {
            bytes = bytes << 8 | (i < text.length() ? text.charAt(i) : ' ');
        }
        return bytes;
    }
}
