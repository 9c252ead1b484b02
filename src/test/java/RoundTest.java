import java.math.BigInteger;

/** Promise 7. */
public final class RoundTest {
    private static final BigInteger LIMIT = BigInteger.ONE.shiftLeft(2048);
    private static final String GREATEST = LIMIT.subtract(BigInteger.ONE).toString();

    public static void main(String[] args) {
        // a, N, D, size, below, above, towards 0, nearest, other sign
        rounds("0", "0", "1", "0", "0", "0", "0", "0", "0");
        rounds("5", "5", "1", "5", "5", "5", "5", "5", "-5");
        rounds("-5", "-5", "1", "5", "-5", "-5", "-5", "-5", "5");
        rounds("7/2", "7", "2", "7/2", "3", "4", "3", "4", "-7/2");
        rounds("-7/2", "-7", "2", "7/2", "-4", "-3", "-3", "-4", "7/2");
        rounds("5/2", "5", "2", "5/2", "2", "3", "2", "2", "-5/2");
        rounds("-5/2", "-5", "2", "5/2", "-3", "-2", "-2", "-2", "5/2");
        rounds("1/2", "1", "2", "1/2", "0", "1", "0", "0", "-1/2");
        rounds("-1/2", "-1", "2", "1/2", "-1", "0", "0", "0", "1/2");
        rounds("3/2", "3", "2", "3/2", "1", "2", "1", "2", "-3/2");
        rounds("1/3", "1", "3", "1/3", "0", "1", "0", "0", "-1/3");
        rounds("2/3", "2", "3", "2/3", "0", "1", "0", "1", "-2/3");
        rounds("-1/3", "-1", "3", "1/3", "-1", "0", "0", "0", "1/3");
        rounds("-2/3", "-2", "3", "2/3", "-1", "0", "0", "-1", "2/3");
        rounds("-8/3", "-8", "3", "8/3", "-3", "-2", "-2", "-3", "8/3");
        BigInteger half = LIMIT.shiftRight(1);
        String below = half.subtract(BigInteger.ONE).toString();
        rounds(GREATEST + "/2", GREATEST, "2", GREATEST + "/2", below, half.toString(), below,
            half.toString(), "-" + GREATEST + "/2");
        rounds("-1/" + GREATEST, "-1", GREATEST, "1/" + GREATEST, "-1", "0", "0", "0", "1/" + GREATEST);
        rounds(GREATEST, GREATEST, "1", GREATEST, GREATEST, GREATEST, GREATEST, GREATEST, "-" + GREATEST);
        refusals();
        onItself();
        Due.finish();
    }

    private static void rounds(String a, String... due) {
        FractionDesk desk = new FractionDesk();
        Due.put(desk, 4, a);
        for (int operation = 0; operation < due.length; operation++) {
            String call = "round of " + a + ", operation " + operation;
            Due.put(desk, 9, "-1/7");
            Due.is(call, 0, desk.round(9, 4, operation));
            Due.holds(call, due[operation], desk, 9);
            Due.holds("a of " + call, a, desk, 4);
            Due.is("isInteger after " + call, !due[operation].contains("/"), desk.isInteger(9));
        }
    }

    private static void refusals() {
        FractionDesk desk = new FractionDesk();
        Due.put(desk, 0, "-7/2");
        for (int wrong : new int[] {-1, 16, Integer.MIN_VALUE, Integer.MAX_VALUE}) {
            Due.is("no operation", FractionDesk.NONE, desk.round(0, 0, wrong));
            for (int operation = 0; operation < 8; operation++) {
                Due.is("no place", FractionDesk.NONE, desk.round(wrong, 0, operation));
                Due.is("no a", FractionDesk.NONE, desk.round(0, wrong, operation));
            }
        }
        Due.is("operation 8", FractionDesk.NONE, desk.round(0, 0, 8));
        Due.holds("the place after refusals", "-7/2", desk, 0);
    }

    private static void onItself() {
        FractionDesk desk = new FractionDesk();
        Due.put(desk, 0, "-7/2");
        Due.is("the other sign", 0, desk.round(0, 0, 7));
        Due.holds("the other sign", "7/2", desk, 0);
        Due.is("the other sign again", 0, desk.round(0, 0, 7));
        Due.is("the size", 0, desk.round(0, 0, 2));
        Due.holds("the size", "7/2", desk, 0);
        Due.is("the nearest", 0, desk.round(0, 0, 6));
        Due.holds("the nearest", "4", desk, 0);
    }
}
