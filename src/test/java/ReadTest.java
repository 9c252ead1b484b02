import java.math.BigInteger;

/** Promise 4: read. */
public final class ReadTest {
    public static void main(String[] args) {
        Due.sentence("The tape (empty then)", ReadTest::emptyThen);
        Due.sentence("The tape (empty then, also with NONE)", ReadTest::emptyWithNone);
        Due.sentence("is a text: the tape is empty", ReadTest::emptyTape);
        Due.sentence("is a text: the tape is full", ReadTest::fullTape);
        Due.sentence("- or nothing", ReadTest::sign);
        Due.sentence("digits 0 .. 9", ReadTest::digits);
        Due.sentence("digits: at least one", ReadTest::noDigits);
        Due.sentence("perhaps / and digits", ReadTest::stroke);
        Due.sentence("0s ahead may be", ReadTest::zerosAhead);
        Due.sentence("each row of digits below 2 to the power 2048: the first", ReadTest::firstRowLimit);
        Due.sentence("each row of digits below 2 to the power 2048: the second", ReadTest::secondRowLimit);
        Due.sentence("each row, not the number in least terms", ReadTest::rowsNotTerms);
        Due.sentence("the second not 0", ReadTest::secondNotZero);
        Due.sentence("the place holds that number: 0", ReadTest::placeHolds);
        Due.sentence("A NUMBER is N / D in least terms, D above 0", ReadTest::leastTerms);
        Due.sentence("NONE: no such place", ReadTest::noPlace);
        Due.finish();
    }

    private static void reads(String text, String due) {
        Desk desk = Desk.busy();
        Due.is("read of " + text, 0, desk.read(15, text));
        Due.is("the tape after " + text, 0, desk.tapeLength());
        Due.holds(text, due, desk, 15);
    }

    /** But for the tape, nothing has changed. */
    private static void refuses(String text) {
        Desk desk = Desk.busy();
        Due.is("read of " + text, FractionDesk.NONE, desk.read(5, text));
        Due.is("the tape after " + text, 0, desk.tapeLength());
        Desk before = Desk.busy();
        before.end(0);
        Due.is("the state after " + text, before.state(), desk.state());
    }

    private static void emptyThen() {
        Desk desk = Desk.busy();
        Due.is("read", 0, desk.read(0));
        Due.is("end(1)", false, desk.end(1));
        Due.is("read again", FractionDesk.NONE, desk.read(1));
        Due.holds("what was read", "-49/38", desk, 0);
        Due.holds("what was not read", "-1", desk, 1);
        desk.append(0, "8");
        Due.is("read of a new tape", 0, desk.read(0));
        Due.holds("a new tape", "8", desk, 0);
    }

    private static void emptyWithNone() {
        for (String text : new String[] {"x", "1/0", "-", Desk.BEYOND, "1/" + Desk.BEYOND, "12 "}) {
            Desk desk = new Desk();
            Due.is("read of " + text, FractionDesk.NONE, desk.read(0, text));
            Due.is("end(1)", false, desk.end(1));
            desk.append(0, "8");
            Due.is("read of a new tape", 0, desk.read(0));
            Due.holds("a new tape", "8", desk, 0);
        }
    }

    private static void emptyTape() {
        refuses("");
        Due.refuses("read of a new object", new Desk(), desk -> desk.read(0));
    }

    private static void fullTape() {
        reads("-" + "0".repeat(1398) + "9", "-9");
        reads("9/" + "0".repeat(1397) + "3", "3");
        refuses("9".repeat(1400));
        refuses("1/" + "9".repeat(1398));
        refuses("0".repeat(1399) + "/");
        refuses("0".repeat(1399) + "x");
        int zeros = Desk.MOST_TAPE - 1 - 2 * Desk.GREATEST.length();
        reads("0".repeat(zeros) + Desk.GREATEST + "/" + Desk.GREATEST, "1");
    }

    private static void sign() {
        reads("7", "7");
        reads("-7", "-7");
        reads("-7/2", "-7/2");
        reads("-0", "0");
        reads("-0/5", "0");
        for (String text : new String[] {"--1", "+1", "1-", "-1-", "1/-2", "-1/-2", "1-2", "- 1", "/-1", "1/2-"}) {
            refuses(text);
        }
        Desk desk = new Desk();
        desk.put(1, "-0");
        Due.is("-0 is the same as 0", 0, desk.compare(0, 1));
    }

    private static void digits() {
        reads("1234567890", "1234567890");
        reads("1/1234567890", "1/1234567890");
        // The neighbours of the digits, letters that write uses, and bytes with the highest bit.
        for (String other : new String[] {":", ".", ";", "a", "A", "z", " ", "\n", "\0", "\u00b0", "\u00b9",
            "\u00ff"}) {
            refuses(other);
            refuses("1" + other);
            refuses(other + "1");
            refuses("1/" + other);
            refuses("1/2" + other);
            refuses("1" + other + "/2");
            refuses("1234567890" + other + "1234567890");
        }
    }

    private static void noDigits() {
        for (String text : new String[] {"-", "/", "-/", "/1", "-/1", "1/", "-1/", "0/"}) {
            refuses(text);
        }
    }

    private static void stroke() {
        reads("22/7", "22/7");
        reads("22", "22");
        for (String text : new String[] {"1//2", "1/2/3", "1/2/", "/1/2", "1/ 2", "1 /2"}) {
            refuses(text);
        }
    }

    private static void zerosAhead() {
        reads("007", "7");
        reads("-007/0014", "-1/2");
        reads("00", "0");
        reads("0/000007", "0");
        reads("0".repeat(700) + "5/" + "0".repeat(600) + "3", "5/3");
        String zeros = "0".repeat(60);
        reads(zeros + Desk.GREATEST + "/" + zeros + "2", Desk.GREATEST + "/2");
        refuses(zeros + Desk.BEYOND);
        refuses("1/" + zeros + Desk.BEYOND);
    }

    private static void firstRowLimit() {
        reads(Desk.GREATEST, Desk.GREATEST);
        reads("-" + Desk.GREATEST, "-" + Desk.GREATEST);
        reads(Desk.GREATEST + "/2", Desk.GREATEST + "/2");
        refuses(Desk.BEYOND);
        refuses("-" + Desk.BEYOND);
        refuses(Desk.BEYOND + "/3");
        refuses(Desk.LIMIT.add(BigInteger.ONE).toString());
        refuses(Desk.LIMIT.shiftLeft(1).toString());
        refuses("1" + "0".repeat(617));
        refuses(Desk.LIMIT.shiftLeft(2048).add(BigInteger.ONE).toString());
    }

    private static void secondRowLimit() {
        reads("1/" + Desk.GREATEST, "1/" + Desk.GREATEST);
        reads("-2/" + Desk.GREATEST, "-2/" + Desk.GREATEST);
        refuses("1/" + Desk.BEYOND);
        refuses("-1/" + Desk.BEYOND);
        refuses("1/" + Desk.LIMIT.add(BigInteger.ONE));
        refuses("1/1" + "0".repeat(617));
        refuses("1/" + Desk.LIMIT.shiftLeft(2048).add(BigInteger.ONE));
    }

    private static void rowsNotTerms() {
        reads(Desk.GREATEST + "/" + Desk.GREATEST, "1");
        reads("0/" + Desk.GREATEST, "0");
        refuses(Desk.BEYOND + "/2");
        refuses("2/" + Desk.BEYOND);
        refuses(Desk.BEYOND + "/" + Desk.BEYOND);
        refuses("0/" + Desk.BEYOND);
    }

    private static void secondNotZero() {
        for (String text : new String[] {"1/0", "-1/0", "0/0", "-0/0", "1/000", "5/00000000000000000000"}) {
            refuses(text);
        }
        reads("5/00000000000000000001", "5");
        reads("5/10000000000", "1/2000000000");
    }

    /** Whatever it held; and no other place. */
    private static void placeHolds() {
        for (int place = 0; place < 16; place++) {
            Desk desk = Desk.busy();
            Due.is("read(" + place + ")", 0, desk.read(place, "-355/113"));
            Due.holds("place " + place, "-355/113", desk, place);
            desk.append(0, Desk.BUSY_TAPE);
            desk.isBusyBut(place);
        }
    }

    private static void leastTerms() {
        reads("6/4", "3/2");
        reads("-10/5", "-2");
        reads("1/1", "1");
        reads("123456789012345678901234567890/987654321098765432109876543210", "13717421/109739369");
        reads("4611686018427387904/2147483648", "2147483648");
        reads("1000000000000000000/1000000000", "1000000000");
        reads(Desk.HALF + "/2", Desk.LIMIT.shiftRight(2).toString());
        reads("6/" + Desk.HALF, "3/" + Desk.LIMIT.shiftRight(2));
    }

    private static void noPlace() {
        for (int place : Desk.NO_PLACES) {
            Desk desk = Desk.busy();
            Due.is("read(" + place + ")", FractionDesk.NONE, desk.read(place));
            Desk before = Desk.busy();
            before.end(0);
            Due.is("the state after read(" + place + ")", before.state(), desk.state());
            Due.is("read(" + place + ") of an empty tape", FractionDesk.NONE, desk.read(place));
            Due.is("read(" + place + ") of no text", FractionDesk.NONE, desk.read(place, "1/0"));
        }
    }
}
