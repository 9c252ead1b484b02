import java.math.BigInteger;

/** Promises 9 and 10. */
public final class WriteTest {
    private static final BigInteger GREATEST = BigInteger.ONE.shiftLeft(2048).subtract(BigInteger.ONE);

    public static void main(String[] args) {
        everyRadix("0", "1");
        everyRadix("35", "36");
        everyRadix("-35", "1");
        everyRadix("2147483647", "2147483648");
        everyRadix("-4611686018427387904", "4611686018427387903");
        everyRadix("1000000000000000000", "1000000000000000001");
        everyRadix(GREATEST.toString(), "1");
        everyRadix("-" + GREATEST, GREATEST.shiftRight(1).toString());
        powersOfEachRadix();
        refusalsChangeNothing();
        theTextStays();
        Due.finish();
    }

    private static void everyRadix(String n, String d) {
        FractionDesk desk = new FractionDesk();
        Due.put(desk, 15, n + "/" + d);
        for (int radix = 2; radix <= 36; radix++) {
            String due = new BigInteger(n).toString(radix);
            if (!d.equals("1")) {
                due = due + "/" + new BigInteger(d).toString(radix);
            }
            String call = "write of " + n + "/" + d + " in radix " + radix;
            int length = desk.write(15, radix);
            Due.is(call, due.length(), length);
            Due.is(call, due, Due.shown(desk, length));
            Due.noCharacter(desk, length);
        }
    }

    /** Digits come in groups: 0s inside must stay, 0s ahead must go. */
    private static void powersOfEachRadix() {
        FractionDesk desk = new FractionDesk();
        for (int radix = 2; radix <= 36; radix++) {
            desk.set(0, radix);
            for (int exponent : new int[] {1, 5, 6, 7, 29, 30, 31, 32, 60, 61, 62, 63, 300}) {
                desk.set(1, exponent);
                Due.is("the power", 0, desk.reckon(2, 0, 1, 7));
                Due.is(radix + " to the power " + exponent, "1" + "0".repeat(exponent),
                    Due.text(desk, 2, radix));
            }
        }
    }

    private static void refusalsChangeNothing() {
        FractionDesk desk = new FractionDesk();
        Due.is("no text yet", FractionDesk.NONE, desk.write(0, 1));
        Due.noCharacter(desk, 0);
        Due.put(desk, 0, "-22/7");
        Due.is("write", 5, desk.write(0, 10));
        for (int radix : new int[] {1, 0, -1, -10, 37, Integer.MIN_VALUE, Integer.MAX_VALUE}) {
            Due.is("write in radix " + radix, FractionDesk.NONE, desk.write(1, radix));
        }
        for (int place : new int[] {-1, 16, Integer.MIN_VALUE, Integer.MAX_VALUE}) {
            Due.is("write of place " + place, FractionDesk.NONE, desk.write(place, 10));
        }
        Due.is("the text after refusals", "-22/7", Due.shown(desk, 5));
        for (int i : new int[] {-1, 5, 6, 4097, 4098, Integer.MIN_VALUE, Integer.MAX_VALUE}) {
            Due.noCharacter(desk, i);
        }
        Due.is("a short text", 1, desk.write(1, 10));
        Due.is("a short text", "0", Due.shown(desk, 1));
        Due.noCharacter(desk, 1);
        Due.noCharacter(desk, 4);
    }

    private static void theTextStays() {
        FractionDesk desk = new FractionDesk();
        Due.put(desk, 0, "-22/7");
        Due.is("write", 7, desk.write(0, 3));
        desk.set(0, 99);
        desk.reckon(0, 0, 0, 2);
        desk.feed(1, 2, 3, 4, 5);
        desk.read(0);
        Due.is("the text after other calls", "-211/21", Due.shown(desk, 7));
    }
}
