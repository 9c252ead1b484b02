import java.math.BigInteger;

/** Promise 9: write. */
public final class WriteTest {
    private static final BigInteger GREATEST = new BigInteger(Desk.GREATEST);

    public static void main(String[] args) {
        Due.sentence("The text becomes that of a place, of a radix: how many characters", WriteTest::everyRadix);
        Due.sentence("radix 2 and radix 36", WriteTest::edgeRadixes);
        Due.sentence("digits 0 .. 9, a .. z", WriteTest::everyDigit);
        Due.sentence("- if it is below 0", WriteTest::sign);
        Due.sentence("for D above 1 / and D", WriteTest::stroke);
        Due.sentence("without 0s ahead", WriteTest::zeros);
        Due.sentence("N, and D, below 2 to the power 2048: the longest texts", WriteTest::longest);
        Due.sentence("The text becomes: nothing of a longer one is left", WriteTest::shorter);
        Due.sentence("write changes nothing but the text", WriteTest::onlyTheText);
        Due.sentence("the text stays till the next write", WriteTest::textStays);
        Due.sentence("refused with NONE, and changes nothing: no such place", WriteTest::noPlace);
        Due.sentence("refused with NONE, and changes nothing: no such radix", WriteTest::noRadix);
        Due.sentence("refused with NONE, and changes nothing: there is no text yet", WriteTest::noTextYet);
        Due.finish();
    }

    private static void writes(String n, String d, int radix) {
        Desk desk = new Desk();
        desk.put(15, n + "/" + d);
        String due = new BigInteger(n).toString(radix);
        if (!d.equals("1")) {
            due = due + "/" + new BigInteger(d).toString(radix);
        }
        String call = "write of " + n + "/" + d + " in radix " + radix;
        Due.is(call, due.length(), desk.write(15, radix));
        Due.is(call, due, desk.text());
    }

    private static void writesOfEveryRadix(String n, String d) {
        for (int radix = 2; radix <= 36; radix++) {
            writes(n, d, radix);
        }
    }

    private static void everyRadix() {
        writesOfEveryRadix("0", "1");
        writesOfEveryRadix("35", "36");
        writesOfEveryRadix("2147483647", "2147483648");
        writesOfEveryRadix("-4611686018427387904", "4611686018427387903");
        writesOfEveryRadix("1000000000000000000", "1000000000000000001");
    }

    private static void edgeRadixes() {
        Desk desk = new Desk();
        desk.put(0, "-35/36");
        Due.is("radix 2", 14, desk.write(0, 2));
        Due.is("radix 2", "-100011/100100", desk.text());
        Due.is("radix 36", 5, desk.write(0, 36));
        Due.is("radix 36", "-z/10", desk.text());
    }

    private static void everyDigit() {
        String digits = "0123456789abcdefghijklmnopqrstuvwxyz";
        Desk desk = new Desk();
        for (int value = 0; value < 36; value++) {
            Due.is("set", 0, desk.set(0, value));
            Due.is("write of " + value, 1, desk.write(0, 36));
            Due.is("the digit of " + value, digits.charAt(value), desk.textAt(0));
        }
    }

    private static void sign() {
        writes("-1", "1", 10);
        writes("-1", "2", 10);
        writes("1", "2", 10);
        Desk desk = new Desk();
        desk.put(0, "-0");
        Due.is("0 is not below 0", "0", desk.number(0));
    }

    private static void stroke() {
        Desk desk = new Desk();
        desk.put(0, "10/5");
        Due.is("D 1", 1, desk.write(0, 10));
        Due.is("D 1", "2", desk.text());
        desk.put(0, "10/20");
        Due.is("D 2", 3, desk.write(0, 10));
        Due.is("D 2", "1/2", desk.text());
    }

    /** Digits come in groups: 0s inside must stay, 0s ahead must go. */
    private static void zeros() {
        Desk desk = new Desk();
        Due.is("0", 1, desk.write(0, 2));
        Due.is("0", "0", desk.text());
        for (int radix = 2; radix <= 36; radix++) {
            for (int exponent : new int[] {1, 5, 6, 7, 29, 30, 31, 32, 60, 61, 62, 63, 300}) {
                desk = new Desk();
                desk.set(0, radix);
                desk.set(1, exponent);
                Due.is("the power", 0, desk.reckon(2, 0, 1, 7));
                Due.is("one over it", 0, desk.reckon(3, 1, 1, 3));
                Due.is("one over it", 0, desk.reckon(3, 3, 2, 3));
                String due = "1" + "0".repeat(exponent);
                Due.is(radix + " to the power " + exponent, due, desk.number(2, radix));
                Due.is("one over it", "1/" + due, desk.number(3, radix));
            }
        }
    }

    private static void longest() {
        writesOfEveryRadix(GREATEST.toString(), "1");
        writesOfEveryRadix("-" + GREATEST, GREATEST.shiftRight(1).toString());
        Desk desk = new Desk();
        desk.put(0, "-" + GREATEST + "/" + GREATEST.subtract(BigInteger.ONE));
        Due.is("the longest of all", 4098, desk.write(0, 2));
        Due.is("the longest of all", "-" + "1".repeat(2048) + "/" + "1".repeat(2047) + "0", desk.text());
    }

    private static void shorter() {
        Desk desk = new Desk();
        desk.put(0, "-22/7");
        Due.is("a longer text", 5, desk.write(0, 10));
        Due.is("a shorter text", 1, desk.write(1, 10));
        Due.is("a shorter text", "0", desk.text());
        Due.is("textAt(1)", Desk.NO_CHARACTER, desk.textAt(1));
        Due.is("textAt(4)", Desk.NO_CHARACTER, desk.textAt(4));
    }

    private static void onlyTheText() {
        for (int place = 0; place < 16; place++) {
            Desk desk = Desk.busy();
            String before = desk.state();
            desk.write(place, 7);
            desk.write(12, 3);
            Due.is("the state after writes", before, desk.state());
        }
    }

    private static void textStays() {
        Desk desk = Desk.busy();
        desk.set(12, 99);
        desk.reckon(0, 12, 12, 2);
        desk.round(1, 5, 6);
        desk.feed(1, 2, 3, 4, 5);
        desk.end(6);
        desk.read(5);
        desk.compare(0, 1);
        desk.bits(0);
        desk.isInteger(0);
        Due.is("the text after other calls", Desk.BUSY_TEXT, desk.text());
    }

    private static void noPlace() {
        Desk desk = Desk.busy();
        for (int place : Desk.NO_PLACES) {
            Due.refuses("write of place " + place, desk, refusing -> refusing.write(place, 10));
            Due.refuses("write of place " + place, desk, refusing -> refusing.write(place, 2));
        }
        Due.refuses("no place, no radix", desk, refusing -> refusing.write(16, 37));
    }

    private static void noRadix() {
        Desk desk = Desk.busy();
        for (int radix : new int[] {1, 37, 0, -1, -2, -10, -36, 256 + 10, 65536 + 10, Integer.MIN_VALUE,
            Integer.MAX_VALUE}) {
            Due.refuses("write of 0 in radix " + radix, desk, refusing -> refusing.write(2, radix));
            Due.refuses("write of -7/3 in radix " + radix, desk, refusing -> refusing.write(5, radix));
        }
    }

    private static void noTextYet() {
        Due.refuses("write in radix 1", new Desk(), desk -> desk.write(0, 1));
        Due.refuses("write in radix 37", new Desk(), desk -> desk.write(0, 37));
        Due.refuses("write of place 16", new Desk(), desk -> desk.write(16, 10));
        Due.refuses("write of place -1", new Desk(), desk -> desk.write(-1, 10));
    }
}
