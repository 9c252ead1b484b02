import java.math.BigInteger;

/** Promise 6: reckon, what it refuses, and that nothing has changed then. */
public final class ReckonRefusalsTest {
    private static final String GREATEST = Desk.GREATEST;
    private static final String HALF = Desk.HALF;
    private static final String[] NO_INTEGERS = {"1/2", "-7/3", "10001/10000", "1/" + GREATEST, GREATEST + "/2"};

    public static void main(String[] args) {
        Due.sentence("-2 for a division by 0: 3", () -> divisionByZero(3));
        Due.sentence("-2 for a division by 0: 4", () -> divisionByZero(4));
        Due.sentence("-2 for a division by 0: 5", () -> divisionByZero(5));
        Due.sentence("-2 for a division by 0: of a fraction too", ReckonRefusalsTest::fractionByZero);
        Due.sentence("-3 when it would be too great: 0 sum", ReckonRefusalsTest::tooGreatSums);
        Due.sentence("-3 when it would be too great: 1 difference", ReckonRefusalsTest::tooGreatDifferences);
        Due.sentence("-3 when it would be too great: 2 product", ReckonRefusalsTest::tooGreatProducts);
        Due.sentence("-3 when it would be too great: 3 quotient", ReckonRefusalsTest::tooGreatQuotients);
        Due.sentence("-3 when it would be too great: 7 power", ReckonRefusalsTest::tooGreatPowers);
        Due.sentence("NONE: no such place", ReckonRefusalsTest::noPlace);
        Due.sentence("NONE: no such operation", ReckonRefusalsTest::noOperation);
        Due.sentence("not integers where they must be: 4", () -> noIntegers(4));
        Due.sentence("not integers where they must be: 5", () -> noIntegers(5));
        Due.sentence("not integers where they must be: 6", () -> noIntegers(6));
        Due.sentence("not integers where they must be: b of 7", ReckonRefusalsTest::noIntegerPower);
        Due.sentence("b an integer 0 .. 10000: below 0", ReckonRefusalsTest::powerBelowZero);
        Due.sentence("b an integer 0 .. 10000: too large", ReckonRefusalsTest::powerTooLarge);
        Due.finish();
    }

    /** Onto another place, onto a and onto b. */
    private static void answers(String a, String b, int operation, int due) {
        Desk desk = Desk.busy();
        desk.put(15, a);
        desk.put(7, b);
        desk.append(0, "5/6");
        for (int place : new int[] {0, 15, 7}) {
            String call = a + " with " + b + ", operation " + operation + ", onto " + place;
            Due.changesNothing(call, due, desk, refusing -> refusing.reckon(place, 15, 7, operation));
        }
    }

    private static void divisionByZero(int operation) {
        for (String a : new String[] {"0", "1", "-1", GREATEST}) {
            answers(a, "0", operation, -2);
        }
    }

    private static void fractionByZero() {
        answers("1/2", "0", 3, -2);
        answers("-1/" + GREATEST, "0", 3, -2);
        Desk desk = Desk.busy();
        Due.is("a with itself", 0, desk.reckon(0, 5, 5, 1));
        Due.changesNothing("by a difference that is 0", -2, desk, refusing -> refusing.reckon(5, 5, 0, 3));
    }

    private static void tooGreatSums() {
        answers(GREATEST, "1", 0, -3);
        answers("-" + GREATEST, "-1", 0, -3);
        answers(HALF, HALF, 0, -3);
        answers(GREATEST, GREATEST, 0, -3);
        answers(GREATEST, "1/2", 0, -3);
        answers("1/" + GREATEST, "1/2", 0, -3);
        answers("1/" + HALF, "1/3", 0, -3);
        answers("1/" + GREATEST, "1/" + HALF, 0, -3);
    }

    private static void tooGreatDifferences() {
        answers("-" + GREATEST, "1", 1, -3);
        answers(GREATEST, "-1", 1, -3);
        answers("-" + HALF, HALF, 1, -3);
        answers("-" + GREATEST, GREATEST, 1, -3);
        answers(GREATEST, "1/2", 1, -3);
        answers("1/" + GREATEST, "1/" + HALF, 1, -3);
    }

    private static void tooGreatProducts() {
        answers(HALF, "2", 2, -3);
        answers(HALF, "-2", 2, -3);
        answers("1/" + HALF, "1/2", 2, -3);
        answers("1/" + HALF, "3/2", 2, -3);
        answers(GREATEST, GREATEST, 2, -3);
        answers("1/" + GREATEST, "1/" + GREATEST, 2, -3);
        String root = BigInteger.ONE.shiftLeft(1024).toString();
        answers(root, root, 2, -3);
    }

    private static void tooGreatQuotients() {
        answers(HALF, "1/2", 3, -3);
        answers(HALF, "-1/2", 3, -3);
        answers("1/2", HALF, 3, -3);
        answers("1/2", "-" + HALF, 3, -3);
        answers(GREATEST, "1/" + GREATEST, 3, -3);
        answers("1/" + GREATEST, GREATEST, 3, -3);
    }

    private static void tooGreatPowers() {
        answers("2", "2048", 7, -3);
        answers("-2", "2048", 7, -3);
        answers("-2", "2049", 7, -3);
        answers("1/2", "2048", 7, -3);
        answers("3", "1293", 7, -3);
        answers("2", "10000", 7, -3);
        answers("-3/2", "10000", 7, -3);
        answers(GREATEST, "2", 7, -3);
        answers("1/" + GREATEST, "2", 7, -3);
        answers(GREATEST, "10000", 7, -3);
    }

    private static void noPlace() {
        for (int wrong : Desk.NO_PLACES) {
            Desk desk = Desk.busy();
            for (int operation = 0; operation < 10; operation++) {
                int asked = operation;
                String call = "operation " + operation + " with place " + wrong;
                Due.refuses(call, desk, refusing -> refusing.reckon(wrong, 0, 8, asked));
                Due.refuses(call + " as a", desk, refusing -> refusing.reckon(0, wrong, 8, asked));
                Due.refuses(call + " as b", desk, refusing -> refusing.reckon(0, 8, wrong, asked));
            }
        }
        Desk desk = Desk.busy();
        Due.refuses("no place, and by 0", desk, refusing -> refusing.reckon(16, 0, 2, 3));
        Due.refuses("no place, and too great", desk, refusing -> refusing.reckon(-1, 6, 6, 2));
        Due.refuses("no place at all", desk, refusing -> refusing.reckon(16, 16, 16, 0));
    }

    private static void noOperation() {
        for (int operation : new int[] {-1, 10, 11, 16, 256, -256, 65536, 1 << 28, Integer.MIN_VALUE,
            Integer.MAX_VALUE}) {
            answers("1", "2", operation, FractionDesk.NONE);
            answers("1/2", "0", operation, FractionDesk.NONE);
        }
    }

    private static void noIntegers(int operation) {
        for (String fraction : NO_INTEGERS) {
            answers(fraction, "1", operation, FractionDesk.NONE);
            answers("1", fraction, operation, FractionDesk.NONE);
            answers(fraction, fraction, operation, FractionDesk.NONE);
        }
        answers("1/2", "0", operation, FractionDesk.NONE);
        answers("0", "1/2", operation, FractionDesk.NONE);
    }

    private static void noIntegerPower() {
        for (String fraction : NO_INTEGERS) {
            answers("1", fraction, 7, FractionDesk.NONE);
            answers("0", fraction, 7, FractionDesk.NONE);
            answers("-2/3", fraction, 7, FractionDesk.NONE);
        }
    }

    private static void powerBelowZero() {
        for (String a : new String[] {"1", "0", "-1", "2/3", "2"}) {
            answers(a, "-1", 7, FractionDesk.NONE);
            answers(a, "-10000", 7, FractionDesk.NONE);
        }
        answers("1", "-" + GREATEST, 7, FractionDesk.NONE);
        answers("2", "-9223372036854775808", 7, FractionDesk.NONE);
    }

    /** Also where an int or a long would wrap around to an exponent. */
    private static void powerTooLarge() {
        for (String a : new String[] {"1", "0", "-1", "2/3", "2"}) {
            answers(a, "10001", 7, FractionDesk.NONE);
            answers(a, GREATEST, 7, FractionDesk.NONE);
            for (int power : new int[] {14, 16, 31, 32, 62, 63, 64, 2047}) {
                answers(a, BigInteger.ONE.shiftLeft(power).add(BigInteger.TWO).toString(), 7, FractionDesk.NONE);
            }
        }
    }
}
