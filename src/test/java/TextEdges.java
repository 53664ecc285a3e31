/** Promises 1 to 4 at their edges: a new object, the tape, texts and their faults. */
final class TextEdges extends Checks {
    private static final String SIX = "hill 1 1;" + "person 0;".repeat(6);
    private static final String EIGHT = TWO + "names 0 1 at 0;".repeat(8);

    /** The text is told with a ^ ahead of the token at fault. */
    private static void faultAt(String marked, int kind) {
        fault(marked.replace("^", ""), kind, marked.indexOf('^'));
    }

    private static void lines(String text, int want) {
        HiccupHill x = new HiccupHill();
        due("hill() of " + text, read(x, text), want);
        due("fault(0) of " + text, x.fault(0), 0);
    }

    /** Each text ends where the next token is wanted. */
    private static void endsEarly(String start, String... parts) {
        for (String part : parts) {
            faultAt(start + part + "^", 2);
        }
    }

    // ---- promise 1

    @Sentence(promise = 1, says = "1 CELL, no PEOPLE.")
    static void aNewObjectHasOneCellAndNobody() {
        HiccupHill x = new HiccupHill();
        due("rows", x.count(0), 1);
        due("columns", x.count(1), 1);
        due("PEOPLE", x.count(2), 0);
        due("PERSON 0", x.person(0, 0), -2);
        due("who can be moved", x.move(0, 0), -11);
    }

    @Sentence(promise = 1, says = "(without one: 1 row, 1 column, no PEOPLE, WIND 0)")
    static void withoutATextTheWindIs0() {
        HiccupHill x = new HiccupHill();
        due("a text with a FAULT is none", read(x, "hill 2 2;wind 3;person 4;"), -33);
        row("ahead of a text", what -> new HiccupHill().count(what), 1, 1, 0, 0, 0);
        row("behind one with a FAULT", what -> x.count(what), 1, 1, 0, 0, 0);
        due("the WIND that was", x.wind(3), 0);
    }

    @Sentence(promise = 1, says = "An object is used for at most 512 calls after it has been made;")
    static void theCall512IsAnsweredAsTheFirst() {
        HiccupHill x = new HiccupHill();
        for (int call = 1; call <= 511; call++) {
            due("call " + call, x.wind(call % 10), (call - 1) % 10);
        }
        due("call 512", x.count(4), 1);
    }

    @Sentence(promise = 1, says = "The constants: `NONE = -1`: There is none.")
    static void noneIsOneBelow0() {
        due("NONE", HiccupHill.NONE, -1);
    }

    // ---- promise 2

    @Sentence(promise = 2, says = "Twenty bytes come behind those on THE TAPE, the highest of each int first: how "
        + "many it has.")
    static void bytesComeBehindTheHighestFirst() {
        HiccupHill x = new HiccupHill();
        due("twenty", x.feed(0x68696c6c, 0x20322033, 0x3b202020, 0x20202020, 0x2020200a), 20);
        due("forty", x.feed(0x77696e64, 0x20353b23, -1, Integer.MIN_VALUE, 0), 40);
        due("what was first is first", x.hill(27), 2);
        due("rows", x.count(0), 2);
        due("columns", x.count(1), 3);
        due("what came then", x.count(4), 5);
        due("twenty again", x.feed(0xe9696c6c, 0, 0, 0, 0), 20);
        due("a byte above 127", x.hill(20), -31);
        due("is the first", x.fault(1), 0);
    }

    @Sentence(promise = 2, says = "-5: it would have more than 900.")
    static void theTapeIsFullAt900() {
        HiccupHill x = new HiccupHill();
        feed(x, "hill 1 1;wind 4;");
        for (int fed = 40; fed <= 900; fed += 20) {
            due("feed to " + fed, x.feed(0x20202020, 0x20202020, 0x20202020, 0x20202020, 0x20202020), fed);
        }
        due("above 900", x.feed(0, 0, 0, 0, 0), -5);
        due("above 900 again", x.feed(0, 0, 0, 0, 0), -5);
        due("900 stay", x.count(6), 900);
        due("they are as they were", x.hill(16), 2);
        due("empty, twenty come", x.feed(0, 0, 0, 0, 0), 20);
    }

    // ---- promise 3

    @Sentence(promise = 3, says = "THE HILL is a TEXT of at most 900 bytes")
    static void aTextOf900BytesIsReadToItsLast() {
        String text = "hill 1 1;" + "wind 1;".repeat(126) + "  wind 7;";
        HiccupHill x = new HiccupHill();
        due("bytes", text.length(), 900);
        due("LINES", read(x, text), 128);
        due("the last one counts", x.count(4), 7);
        fault(text.substring(0, 899), 2, 899);
        fault(text.substring(0, 899) + "#", 1, 899);
    }

    @Sentence(promise = 3, says = "The first n bytes of THE TAPE (which is empty then) are THE HILL, nothing can be "
        + "UNDONE: how many LINES (hill, too;")
    static void theFirstBytesAreTheHill() {
        HiccupHill x = hill("hill 1 1;");
        x.wind(3);
        due("one can be UNDONE", x.count(5), 1);
        feed(x, "hill 1 1;wind 1;wind 2;");
        due("LINES of the first 16 bytes", x.hill(16), 2);
        due("the WIND of these", x.count(4), 1);
        due("THE TAPE is empty", x.count(6), 0);
        due("nothing is left on it", x.hill(1), -3);
        due("nothing can be UNDONE", x.undo(1), -3);
        due("one LINE", read(x, "hill 1 1;"), 1);
    }

    @Sentence(promise = 3, says = "The first n bytes of THE TAPE (which is empty then) are THE HILL")
    static void nothingOfAnEarlierHillIsLeft() {
        String full = "hill 8 8;" + "person 63 loud 9 deaf 9 voice 9;".repeat(6) + "names 0 1 at 0 sure 0;".repeat(8)
            + "wind 9;gaps : 20;pitch : 9;answers : 0 = 0;";
        HiccupHill x = new HiccupHill();
        String[] earlier = {full, full, "hill 8 8;" + full.substring(9) + "#", full + ";"};
        for (String text : earlier) {
            read(x, text);
        }
        due("LINES", read(x, TWO + "names 0 1 at 98;"), 4);
        row("count", what -> x.count(what), 1, 1, 2, 1, 0, 0, 0, 4);
        row("PERSON 0", what -> x.person(0, what), 0, 0, 0, 0);
        due("sure", x.naming(0, 3), 10);
        due("GAP", x.between(0, 1, 0), 1);
        due("PITCH", x.between(0, 1, 1), 0);
        due("ANSWERS", x.answers(1), 0);
    }

    @Sentence(promise = 3, says = "at most 900 bytes")
    static void textsAsLongAsCanBeAreReadOneBehindTheOther() {
        HiccupHill x = new HiccupHill();
        for (int i = 1; i <= 7; i++) {
            String text = TWO + "gaps:0" + "+0".repeat(432) + "+" + i + ";";
            due("bytes", text.length(), 900);
            due("LINES", read(x, text), 4);
            due("the last term counts", x.between(0, 1, 0), i);
        }
    }

    @Sentence(promise = 3, says = "with a FAULT all stays but THE TAPE, which is empty then, too).")
    static void withAFaultAllStaysButTheTape() {
        HiccupHill x = hill("hill 2 3;person 5 loud 1;person 0;names 0 1 at 4 sure 6;"
            + "gaps : 7;pitch : 2;answers : 0 = 0;");
        x.wind(8);
        x.move(1, 3);
        String[] texts = {"", "#", "hill 1 1;wind 10;", "hill 1 1;person 0;names 0 0 at 0;", SIX + "person 0;",
            "hill 1 1;wind 1;gaps : 1;pitch : 1;answers : 1 = 2;wind"};
        for (String text : texts) {
            due("refused: " + text, read(x, text) <= -31 ? 1 : 0, 1);
            row("count behind " + text, what -> x.count(what), 2, 3, 2, 1, 8, 2, 0, 7);
            due("law gaps behind " + text, x.between(0, 1, 0), 7);
            due("law pitch behind " + text, x.between(0, 1, 1), 2);
            due("law answers behind " + text, x.answers(1), 6);
            due("CELL behind " + text, x.person(1, 0), 3);
            due("loud behind " + text, x.person(0, 1), 1);
            due("sure behind " + text, x.naming(0, 3), 6);
        }
        due("UNDONE as ahead of them", x.undo(2), 0);
        due("CELL", x.person(1, 0), 0);
    }

    @Sentence(promise = 3, says = "-3: n is below 0 or above what there is (THE TAPE stays);")
    static void moreBytesThanThereAreAreRefused() {
        HiccupHill x = new HiccupHill();
        due("1 of an empty TAPE", x.hill(1), -3);
        feed(x, "hill 1 1;wind 4;    ");
        for (int n : new int[] {-1, Integer.MIN_VALUE, 21, 900, 901, Integer.MAX_VALUE}) {
            due("n is " + n, x.hill(n), -3);
            due("THE TAPE stays", x.count(6), 20);
        }
        due("it isn't read", x.fault(0), 0);
        due("all that there is", x.hill(20), 2);
        due("0 of an empty TAPE is read", x.hill(0), -32);
    }

    @Sentence(promise = 3, says = "-30 less the FAULT.")
    static void aFaultIsTakenFrom30Below() {
        due("1", read(new HiccupHill(), "#"), -31);
        due("2", read(new HiccupHill(), ";"), -32);
        due("3", read(new HiccupHill(), "hill 0 1;"), -33);
        due("4", read(new HiccupHill(), SIX + "person 0;"), -34);
    }

    @Sentence(promise = 3, says = "hill N N ; { LINE ; }")
    static void aHillMayHaveNoLines() {
        lines("hill 1 1;", 1);
        lines(" hill 8 8 ; ", 1);
        lines("hill 1 1;wind 0;", 2);
        endsEarly("", "", "hill", "hill 1", "hill 1 1", "hill 1 1;wind 1");
        faultAt("hill ^;", 2);
        faultAt("hill 1 ^;", 2);
        faultAt("hill 1 1 ^1;", 2);
        faultAt("hill 1 1;^;", 2);
        faultAt("hill 1 1 ^wind 1;", 2);
    }

    @Sentence(promise = 3, says = "LINE: person N { FLAG } | names N N at N { sure N } | wind N | gaps : SUM | pitch "
        + ": SUM | answers : TRUTH.")
    static void eachLineHasAllOfItsParts() {
        lines(TWO + "names 0 1 at 0;names 1 0 at 1 sure 1 sure 2;wind 1;gaps : 1;pitch : 1;answers : 1 = 1;", 9);
        endsEarly("hill 1 1;", "person", "person 0", "wind", "gaps", "gaps :", "pitch", "pitch :");
        endsEarly("hill 1 1;", "answers", "answers :");
        endsEarly(TWO, "names", "names 0", "names 0 1", "names 0 1 at", "names 0 1 at 0", "names 0 1 at 0 sure");
        faultAt("hill 1 1;person ^;", 2);
        faultAt("hill 1 1;person 0 ^0;", 2);
        faultAt("hill 1 1;wind ^;", 2);
        faultAt("hill 1 1;wind 1 ^1;", 2);
        faultAt("hill 1 1;gaps ^1;", 2);
        faultAt("hill 1 1;gaps : ^;", 2);
        faultAt("hill 1 1;gaps : 1 ^= 1;", 2);
        faultAt("hill 1 1;pitch : ^;", 2);
        faultAt("hill 1 1;answers : ^;", 2);
        faultAt("hill 1 1;answers : 1 ^;", 2);
        faultAt(TWO + "names 0 ^at 0;", 2);
        faultAt(TWO + "names 0 1 ^0;", 2);
        faultAt(TWO + "names 0 1 at ^;", 2);
        faultAt(TWO + "names 0 1 at 0 sure ^;", 2);
        faultAt(TWO + "names 0 1 at 0 ^0;", 2);
    }

    @Sentence(promise = 3, says = "FLAG: loud N | deaf N | voice N.")
    static void aFlagHasItsNumber() {
        lines("hill 1 1;person 0 voice 1 deaf 2 loud 3 loud 4;", 2);
        for (String flag : new String[] {"loud", "deaf", "voice"}) {
            faultAt("hill 1 1;person 0 " + flag + " ^;", 2);
            faultAt("hill 1 1;person 0 " + flag + " ^loud 1;", 2);
            faultAt("hill 1 1;person 0 " + flag + " 1 ^1;", 2);
            endsEarly("hill 1 1;person 0 ", flag, flag + " 1");
        }
    }

    @Sentence(promise = 3, says = "SUM: TERM { + TERM | - TERM }; TERM: ATOM { * ATOM };")
    static void behindEachSignThereIsAnAtom() {
        lines("hill 1 1;gaps : 1;pitch : 1 + 1 - 1 * 1 * 1;", 3);
        for (String sign : new String[] {"+", "-", "*"}) {
            faultAt("hill 1 1;gaps : 1 " + sign + " ^;", 2);
            faultAt("hill 1 1;gaps : ^" + sign + " 1;", 2);
            faultAt("hill 1 1;gaps : 1 " + sign + " ^" + sign + " 1;", 2);
            endsEarly("hill 1 1;gaps : 1 ", sign, sign + " 1");
        }
        faultAt("hill 1 1;gaps : 1 ^1;", 2);
    }

    @Sentence(promise = 3, says = "ATOM: N, ( SUM ), if TRUTH then SUM else SUM end, who, whom, far, loud, deaf, "
        + "voice, wind,")
    static void anAtomIsWhole() {
        lines("hill 1 1;gaps : 0 + 999 + (1) + if 1 = 1 then 1 else 1 end;", 2);
        lines("hill 1 1;gaps : who + whom + far + loud + deaf + voice + wind;", 2);
        faultAt("hill 1 1;gaps : (^);", 2);
        faultAt("hill 1 1;gaps : (1^;", 2);
        faultAt("hill 1 1;gaps : 1^);", 2);
        faultAt("hill 1 1;gaps : (1 ^= 1);", 2);
        faultAt("hill 1 1;gaps : if ^then 1 else 1 end;", 2);
        faultAt("hill 1 1;gaps : if 1 ^then 1 else 1 end;", 2);
        faultAt("hill 1 1;gaps : if 1 = 1 ^else 1 end;", 2);
        faultAt("hill 1 1;gaps : if 1 = 1 then ^else 1 end;", 2);
        faultAt("hill 1 1;gaps : if 1 = 1 then 1 ^end;", 2);
        faultAt("hill 1 1;gaps : if 1 = 1 then 1 else ^end;", 2);
        faultAt("hill 1 1;gaps : if 1 = 1 then 1 else 1 ^;", 2);
        for (String word : new String[] {"hill", "person", "names", "at", "sure", "gaps", "not", "["}) {
            faultAt("hill 1 1;gaps : ^" + word + ";", 2);
        }
    }

    @Sentence(promise = 3, says = "in answers gap, minute too.")
    static void gapAndMinuteAreInAnswersToo() {
        lines("hill 1 1;answers : gap = minute;", 2);
        lines("hill 1 1;answers : if gap = 1 then minute else (gap) end = 1 and not [minute > gap];", 2);
        faultAt("hill 1 1;answers : gap = 1;gaps : ^gap;", 2);
        faultAt("hill 1 1;answers : gap = 1;pitch : ^minute;", 2);
    }

    @Sentence(promise = 3, says = "TRUTH: BOTH { or BOTH }; BOTH: UNIT { and UNIT };")
    static void behindEachAndOrThereIsAUnit() {
        lines("hill 1 1;answers : 1 = 1 or 1 = 1 and 1 = 1 or 1 = 1;", 2);
        for (String word : new String[] {"and", "or"}) {
            faultAt("hill 1 1;answers : 1 = 1 " + word + " ^;", 2);
            faultAt("hill 1 1;answers : ^" + word + " 1 = 1;", 2);
            faultAt("hill 1 1;answers : 1 = 1 " + word + " ^" + word + " 1 = 1;", 2);
            endsEarly("hill 1 1;answers : 1 = 1 ", word, word + " 1 = 1");
        }
        faultAt("hill 1 1;answers : 1 = 1 ^[1 = 1];", 2);
    }

    @Sentence(promise = 3, says = "UNIT: not UNIT, [ TRUTH ], or SUM, one of = < >, SUM.")
    static void aUnitHasOneSignBetweenTwoSums() {
        lines("hill 1 1;answers : not not [1 = 1];", 2);
        for (String sign : new String[] {"=", "<", ">"}) {
            lines("hill 1 1;answers : 1 + 1 " + sign + " 1 * 1;", 2);
            faultAt("hill 1 1;answers : 1 " + sign + " ^;", 2);
            faultAt("hill 1 1;answers : ^" + sign + " 1;", 2);
            faultAt("hill 1 1;answers : 1 " + sign + " ^" + sign + " 1;", 2);
            faultAt("hill 1 1;answers : 1 " + sign + " 1 ^" + sign + " 1;", 2);
        }
        faultAt("hill 1 1;answers : 1 ^2;", 2);
        faultAt("hill 1 1;answers : [^];", 2);
        faultAt("hill 1 1;answers : [1 = 1 ^;", 2);
        faultAt("hill 1 1;answers : 1 = 1 ^];", 2);
        faultAt("hill 1 1;answers : not ^;", 2);
        faultAt("hill 1 1;answers : [1 = 1] ^= 1;", 2);
        faultAt("hill 1 1;answers : (1 ^= 1);", 2);
    }

    @Sentence(promise = 3, says = "At most six of not [ ( if within one another.")
    static void sixMayBeWithinOneAnother() {
        lines("hill 1 1;gaps : ((((((1))))));", 2);
        lines("hill 1 1;gaps : ((((((1)))))) + ((((((1)))))) * ((((((1))))));", 2);
        lines("hill 1 1;answers : not not not not not not 1 = 1;", 2);
        lines("hill 1 1;answers : [[[[[[1 = 1]]]]]] and not [ not [ (if 1 = 1 then 1 else 1 end) = 1 ] ];", 2);
        String deep = "1";
        for (int i = 0; i < 6; i++) {
            deep = "if " + deep + " = 1 then " + (i < 3 ? deep : "1") + " else 1 end";
        }
        lines("hill 1 1;gaps : " + deep + ";", 2);
    }

    @Sentence(promise = 3, says = "hill: rows, columns, 1 to 8 each;")
    static void rowsAndColumnsAre1To8() {
        lines("hill 1 1;", 1);
        lines("hill 8 8;", 1);
        due("64 CELLS", hill("hill 8 8;person 63;").person(0, 0), 63);
        faultAt("hill ^0 1;", 3);
        faultAt("hill ^9 1;", 3);
        faultAt("hill 1 ^0;", 3);
        faultAt("hill 1 ^9;", 3);
        faultAt("hill ^999 999;", 3);
        faultAt("hill 1 ^000;", 3);
        lines("hill 008 01;", 1);
    }

    @Sentence(promise = 3, says = "CELLS are numbered row by row from 0 on.")
    static void cellsAreNumberedRowByRow() {
        HiccupHill wide = hill("hill 2 3;person 0;person 2;person 3;person 5;");
        due("along a row", wide.between(0, 1, 2), 2);
        due("the next row begins behind it", wide.between(1, 2, 2), 3);
        due("from the first to the last", wide.between(0, 3, 2), 3);
        HiccupHill high = hill("hill 3 2;person 1;person 2;");
        due("of two columns", high.between(0, 1, 2), 2);
    }

    @Sentence(promise = 3, says = "person: a CELL;")
    static void aPersonsCellIsOnTheHill() {
        lines("hill 2 3;person 0;person 5;", 3);
        lines("hill 8 8;person 63;", 2);
        faultAt("hill 2 3;person ^6;", 3);
        faultAt("hill 8 8;person ^64;", 3);
        faultAt("hill 1 1;person ^1;", 3);
        faultAt("hill 1 1;person ^999;", 3);
    }

    @Sentence(promise = 3, says = "loud, deaf, voice 0 to 9 each (0; later ones count in place of earlier ones);")
    static void flagsAre0To9() {
        HiccupHill x = hill("hill 1 1;person 0;person 0 loud 0 deaf 0 voice 0;person 0 loud 9 deaf 9 voice 9;"
            + "person 0 loud 9 loud 0 deaf 1 deaf 2 voice 9 voice 8 voice 7;");
        row("not told", what -> x.person(0, what), 0, 0, 0, 0);
        row("the least", what -> x.person(1, what), 0, 0, 0, 0);
        row("the greatest", what -> x.person(2, what), 0, 9, 9, 9);
        row("the later ones", what -> x.person(3, what), 0, 0, 2, 7);
        faultAt("hill 1 1;person 0 loud ^10;", 3);
        faultAt("hill 1 1;person 0 deaf ^10;", 3);
        faultAt("hill 1 1;person 0 voice ^10;", 3);
        faultAt("hill 1 1;person 0 loud 9 loud ^10;", 3);
    }

    @Sentence(promise = 3, says = "numbered from 0 on, 6 at most.")
    static void peopleAre6AtMost() {
        HiccupHill x = hill("hill 1 6;person 5;person 4;person 3;person 2;person 1;person 0;");
        for (int p = 0; p < 6; p++) {
            due("PERSON " + p, x.person(p, 0), 5 - p);
        }
        due("PERSON 6", x.person(6, 0), -2);
        due("PEOPLE", x.count(2), 6);
        faultAt(SIX + "^person 0;", 4);
    }

    @Sentence(promise = 3, says = "names: two PEOPLE told ahead, not one: who names whom,")
    static void namedPeopleAreToldAhead() {
        HiccupHill x = hill(SIX + "names 5 0 at 0;names 0 5 at 0;");
        due("who", x.naming(0, 0), 5);
        due("whom", x.naming(0, 1), 0);
        due("who, the other way", x.naming(1, 0), 0);
        due("whom, the other way", x.naming(1, 1), 5);
        faultAt("hill 1 1;names ^0 1 at 0;person 0;person 0;", 3);
        faultAt("hill 1 1;person 0;names 0 ^1 at 0;person 0;", 3);
        faultAt(TWO + "names ^2 0 at 0;person 0;", 3);
        faultAt(TWO + "names 1 ^1 at 0;", 3);
    }

    @Sentence(promise = 3, says = "at a MINUTE 0 to 99,")
    static void theMinuteOfANamingIs0To99() {
        HiccupHill x = hill(TWO + "names 0 1 at 0;names 0 1 at 99;");
        due("the first MINUTE", x.naming(0, 2), 0);
        due("the last MINUTE", x.naming(1, 2), 99);
        faultAt(TWO + "names 0 1 at ^100;", 3);
        faultAt(TWO + "names 0 1 at ^999;", 3);
    }

    @Sentence(promise = 3, says = "sure: how likely it is, in 10, 0 to 10 (10; a later one strikes);")
    static void sureIs0To10() {
        HiccupHill x = hill(TWO + "names 0 1 at 0;names 0 1 at 0 sure 0;names 0 1 at 0 sure 10;"
            + "names 0 1 at 0 sure 10 sure 0;names 0 1 at 0 sure 0 sure 9 sure 10;");
        row("NAMING", k -> x.naming(k, 3), 10, 0, 10, 0, 10);
        faultAt(TWO + "names 0 1 at 0 sure ^11;", 3);
        faultAt(TWO + "names 0 1 at 0 sure 1 sure ^11;", 3);
    }

    @Sentence(promise = 3, says = "NAMINGS, numbered from 0 on, 8 at most.")
    static void namingsAre8AtMost() {
        StringBuilder text = new StringBuilder(TWO);
        for (int k = 0; k < 8; k++) {
            text.append("names 0 1 at ").append(20 - k).append(';');
        }
        HiccupHill x = hill(text.toString());
        for (int k = 0; k < 8; k++) {
            due("NAMING " + k, x.naming(k, 2), 20 - k);
        }
        due("NAMING 8", x.naming(8, 2), -2);
        due("NAMINGS", x.count(3), 8);
        faultAt(text + "^names 0 1 at 0;", 4);
    }

    @Sentence(promise = 3, says = "wind 0 to 9;")
    static void theWindIs0To9() {
        due("the least", hill("hill 1 1;wind 0;").count(4), 0);
        due("the greatest", hill("hill 1 1;wind 9;").count(4), 9);
        faultAt("hill 1 1;wind ^10;", 3);
        faultAt("hill 1 1;wind ^999;", 3);
    }

    @Sentence(promise = 3, says = "later ones of wind, gaps, pitch, answers count in place of earlier ones.")
    static void laterLinesCount() {
        HiccupHill x = hill("hill 1 1;wind 9;gaps : 9;pitch : 9;answers : 1 = 2;person 0;person 0;names 0 1 at 0;"
            + "wind 8;wind 0;gaps : 8;gaps : 2;pitch : 8;pitch : 0;answers : 1 = 1;");
        due("WIND", x.count(4), 0);
        due("GAP", x.between(0, 1, 0), 2);
        due("PITCH", x.between(0, 1, 1), 0);
        due("ANSWERS", x.answers(1) > 0 ? 1 : 0, 1);
        due("no ANSWERS", hill(TWO + "names 0 1 at 0;answers : 1 = 1;answers : 1 = 2;").answers(1), 0);
        due("LINES", x.count(7), 15);
        due("the last of 121", hill(TWO + "gaps:2;".repeat(120) + "gaps:3;").between(0, 1, 0), 3);
    }

    // ---- promise 4

    @Sentence(promise = 4, says = "Of the latest hill() that was read, what 0: its FAULT (0), 1: its place (NONE).")
    static void theFaultIsOfTheLatestTextRead() {
        HiccupHill x = new HiccupHill();
        due("none was read", x.fault(0), 0);
        due("no place then", x.fault(1), -1);
        due("the first is read", read(x, "hill 1 1;wind 10;"), -33);
        due("the next isn't", x.hill(1), -3);
        due("FAULT", x.fault(0), 3);
        due("place", x.fault(1), 14);
        due("FAULT at place 0", read(x, ";"), -32);
        due("place 0", x.fault(1), 0);
        due("without a FAULT", read(x, "hill 1 1;"), 1);
        due("no FAULT", x.fault(0), 0);
        due("no place", x.fault(1), -1);
    }

    @Sentence(promise = 4, says = "NONE for others.")
    static void otherWhatsOfFaultAreNone() {
        HiccupHill x = new HiccupHill();
        read(x, "hill 1 1;wind 10;");
        refused("what", -1, what -> x.fault(what), -1, 2, 3);
    }

    @Sentence(promise = 4, says = "TOKENS, as long as they go on,")
    static void tokensGoOnAsLongAsTheyCan() {
        faultAt("hill 1 1;^windy 1;", 2);
        faultAt("hill 1 1;^win 1;", 2);
        faultAt("hill 1 1;^hillwind 1;", 2);
        faultAt("hill ^11;", 3);
        faultAt("hill 1 1;wind ^12;", 3);
        faultAt("hill 1 1;wind 1 ^2;", 2);
        lines("hill1 1;person0loud1deaf2;gaps:if 1=1then 2else 3end;", 3);
        faultAt("hill 1 1;^personperson 0;", 2);
    }

    @Sentence(promise = 4, says = "between them blanks (10, 32):")
    static void blanksAre10And32() {
        lines("\n\n hill\n1  1 \n;\n wind 1;\n", 2);
        for (int c = 0; c < 256; c++) {
            boolean blank = c == 10 || c == 32;
            boolean sign = c >= '0' && c <= '9' || c >= 'a' && c <= 'z' || ";:+-*()[]=<>".indexOf(c) >= 0;
            String text = "hill 1 1;" + (char) c;
            if (blank) {
                lines(text, 1);
            } else {
                fault(text, sign ? 2 : 1, 9);
            }
        }
    }

    @Sentence(promise = 4, says = "words (small letters),")
    static void wordsAreOfSmallLetters() {
        faultAt("^Hill 1 1;", 1);
        faultAt("hill 1 1;^WIND 1;", 1);
        faultAt("hill 1 1;^`wind 1;", 1);
        faultAt("hill 1 1;wind^{1;", 1);
        faultAt("hill 1 1;wind^_1;", 1);
        faultAt("hill 1 1;^wi\u00e9nd 1;", 2);
        faultAt("hill 1 1;^az 1;", 2);
    }

    @Sentence(promise = 4, says = "N (1 to 3 digits),")
    static void numbersHave1To3Digits() {
        lines("hill 1 1;wind 9;", 2);
        lines("hill 1 1;wind 09;", 2);
        lines("hill 1 1;wind 009;", 2);
        faultAt("hill 1 1;wind ^0009;", 1);
        lines("hill 1 1;gaps : 0 + 999;", 2);
        faultAt("hill 1 1;gaps : 999^/;", 1);
    }

    @Sentence(promise = 4, says = "the signs ; : + - * ( ) [ ] = < >.")
    static void otherSignsBeginNoToken() {
        for (char c : ";:+*()[]=<>".toCharArray()) {
            faultAt("hill 1 1;wind ^" + c, 2);
        }
        for (char c : "!\"#$%&',./?@\\_`{|}~".toCharArray()) {
            faultAt("hill 1 1;wind ^" + c, 1);
        }
        faultAt("hill 1 1;wind ^-1;", 2);
    }

    @Sentence(promise = 4, says = "FAULTS, the first along the text,")
    static void theFirstFaultIsTold() {
        faultAt("hill 1 1;wind ^10;#", 3);
        faultAt("hill 1 1;^#;wind 10;", 1);
        faultAt("hill ^9 1000;", 3);
        faultAt("hill 1 1;wind ^;wind 1000;", 2);
        faultAt(SIX + "^person 9;#", 4);
        faultAt(SIX + "wind ^10;person 0;", 3);
        faultAt("hill 1 1;gaps : ((((((^(((((;", 4);
    }

    @Sentence(promise = 4, says = "of one TOKEN the least kind:")
    static void ofOneTokenTheLeastKindIsTold() {
        faultAt("hill 1 1;wind ^1000;", 1);
        faultAt("hill 1 1;^1000;", 1);
        faultAt("hill ^0000 1;", 1);
        faultAt("hill 1 1;^99;", 2);
        faultAt("hill 1 1;wind 1 ^999;", 2);
        faultAt(SIX + "wind ^person 0;", 2);
        faultAt(SIX + "wind 1 ^person 0;", 2);
        faultAt(EIGHT + "wind ^names 0 1 at 0;", 2);
        faultAt("hill 1 1;gaps : ((((((1 ^(", 2);
        faultAt("hill 1 1;gaps : ((((((1 + ^[", 2);
        faultAt("hill 1 1;gaps : ((((((1 + ^not", 2);
        faultAt("hill 1 1;answers : [[[[[[1 = 1 ^if", 2);
    }

    @Sentence(promise = 4, says = "1 no TOKEN begins so (4 digits and more: at their first).")
    static void fourDigitsAreAFaultAtTheirFirst() {
        faultAt("^1234", 1);
        faultAt("hill ^1111 1;", 1);
        faultAt("hill 1 ^00001;", 1);
        faultAt("hill 1 1;gaps : ^1000;", 1);
        faultAt("hill 1 1;gaps : 999 + ^1000;", 1);
        faultAt("hill 1 1;wind ^" + "1".repeat(880) + ";", 1);
        faultAt("hill 1 1;wind ^" + "0".repeat(11) + ";", 1);
        faultAt("hill 1 1;wind ^4294967296;", 1);
        faultAt("^!", 1);
    }

    @Sentence(promise = 4, says = "2 it can't stand there (the end: the text's length;")
    static void theEndsPlaceIsTheTextsLength() {
        faultAt("hill 1 1;wind^", 2);
        faultAt("hill 1 1;wind \n  ^", 2);
        faultAt("hill 1 1;gaps : if^", 2);
        faultAt("hill 1 1;answers : not [^", 2);
        faultAt("hill 1 1;person 0 loud 1^", 2);
        HiccupHill x = new HiccupHill();
        feed(x, "hill 1 1;wind 4;");
        due("the text is what is read of THE TAPE", x.hill(15), -32);
        due("its length", x.fault(1), 15);
    }

    @Sentence(promise = 4, says = "hill must be told first, and once;")
    static void hillIsFirstAndOnce() {
        faultAt("^", 2);
        faultAt("   ^", 2);
        faultAt("^;", 2);
        faultAt("^wind 1;hill 1 1;", 2);
        faultAt("^person 0;", 2);
        faultAt("hill 1 1;^hill 1 1;", 2);
        faultAt("hill 1 1;wind 1;^hill 1 1;", 2);
        faultAt(SIX + "^hill 9 9;", 2);
    }

    @Sentence(promise = 4, says = "gap, minute in gaps, pitch).")
    static void gapAndMinuteCantStandInGapsAndPitch() {
        for (String law : new String[] {"gaps", "pitch"}) {
            for (String name : new String[] {"gap", "minute"}) {
                faultAt("hill 1 1;" + law + " : ^" + name + ";", 2);
                faultAt("hill 1 1;" + law + " : 1 + (^" + name + ");", 2);
                faultAt("hill 1 1;" + law + " : if ^" + name + " = 1 then 1 else 2 end;", 2);
            }
        }
    }

    @Sentence(promise = 4, says = "3 an N out of its bounds (PEOPLE that aren't told, one and the same).")
    static void numbersOutOfTheirBoundsAreAFault() {
        faultAt("hill 1 1;names ^0 0 at 0;", 3);
        faultAt(TWO + "names ^2 0 at 0;", 3);
        faultAt(TWO + "names ^2 2 at 0;", 3);
        faultAt(TWO + "names ^999 0 at 0;", 3);
        faultAt(TWO + "names 0 ^2 at 0;", 3);
        faultAt(TWO + "names 0 ^0 at 0;", 3);
        faultAt(TWO + "names 1 ^001 at 0;", 3);
        faultAt(SIX + "names ^6 0 at 0;", 3);
        faultAt(SIX + "names 5 ^6 at 0;", 3);
        lines("hill 1 1;gaps : 000 * 999;pitch : 999;answers : 999 > 0;", 4);
    }

    @Sentence(promise = 4, says = "4 the first TOKEN of a 7th person, a 9th naming;")
    static void theSeventhPersonAndTheNinthNamingAreFaults() {
        faultAt(SIX + "^person 0;", 4);
        faultAt(SIX + "^person", 4);
        faultAt(SIX + "^person 999 loud 99;", 4);
        faultAt(EIGHT + "^names 0 1 at 0;", 4);
        faultAt(EIGHT + "^names", 4);
        faultAt(EIGHT + "^names 9 9 at 999;", 4);
        lines(SIX + "names 0 1 at 0;".repeat(8), 15);
    }

    @Sentence(promise = 4, says = "a seventh of not [ ( if.")
    static void theSeventhNestedIsAFault() {
        faultAt("hill 1 1;gaps : ((((((^(1)))))));", 4);
        faultAt("hill 1 1;gaps : ((((((^if 1 = 1 then 1 else 1 end))))));", 4);
        faultAt("hill 1 1;answers : not not not not not not ^not 1 = 1;", 4);
        faultAt("hill 1 1;answers : [[[[[[^[1 = 1]]]]]]];", 4);
        faultAt("hill 1 1;answers : [[[[[[^not 1 = 1]]]]]];", 4);
        faultAt("hill 1 1;answers : [[[[[[1 = ^(1)]]]]]];", 4);
        faultAt("hill 1 1;answers : not [ not [ ( if ^[ 1 = 1 and [", 4);
        faultAt("hill 1 1;gaps : (((((if 1 = 1 then 1 else ^(1) end)))));", 4);
        faultAt("hill 1 1;gaps : (((((if ^[1 = 1] then 1 else 1 end)))));", 4);
        faultAt("hill 1 1;gaps : ((((((1)))))) + ((((((^(1)))))));", 4);
    }
}
