import java.math.BigInteger;

/** Promise 7: round. */
public final class RoundTest {
    private static final String GREATEST = Desk.GREATEST;
    private static final String HALF = Desk.HALF;
    private static final String BELOW_HALF = new BigInteger(HALF).subtract(BigInteger.ONE).toString();

    /** a, and what the operations 0 .. 7 make of it. */
    private static final String[][] ROWS = {
        {"0", "0", "1", "0", "0", "0", "0", "0", "0"},
        {"5", "5", "1", "5", "5", "5", "5", "5", "-5"},
        {"-5", "-5", "1", "5", "-5", "-5", "-5", "-5", "5"},
        {"7/2", "7", "2", "7/2", "3", "4", "3", "4", "-7/2"},
        {"-7/2", "-7", "2", "7/2", "-4", "-3", "-3", "-4", "7/2"},
        {"5/2", "5", "2", "5/2", "2", "3", "2", "2", "-5/2"},
        {"-5/2", "-5", "2", "5/2", "-3", "-2", "-2", "-2", "5/2"},
        {"1/2", "1", "2", "1/2", "0", "1", "0", "0", "-1/2"},
        {"-1/2", "-1", "2", "1/2", "-1", "0", "0", "0", "1/2"},
        {"3/2", "3", "2", "3/2", "1", "2", "1", "2", "-3/2"},
        {"-3/2", "-3", "2", "3/2", "-2", "-1", "-1", "-2", "3/2"},
        {"1/3", "1", "3", "1/3", "0", "1", "0", "0", "-1/3"},
        {"2/3", "2", "3", "2/3", "0", "1", "0", "1", "-2/3"},
        {"-1/3", "-1", "3", "1/3", "-1", "0", "0", "0", "1/3"},
        {"-2/3", "-2", "3", "2/3", "-1", "0", "0", "-1", "2/3"},
        {"-8/3", "-8", "3", "8/3", "-3", "-2", "-2", "-3", "8/3"},
        {"4294967297/2", "4294967297", "2", "4294967297/2", "2147483648", "2147483649", "2147483648",
            "2147483648", "-4294967297/2"},
        {GREATEST + "/2", GREATEST, "2", GREATEST + "/2", BELOW_HALF, HALF, BELOW_HALF, HALF, "-" + GREATEST + "/2"},
        {"-" + GREATEST + "/2", "-" + GREATEST, "2", GREATEST + "/2", "-" + HALF, "-" + BELOW_HALF,
            "-" + BELOW_HALF, "-" + HALF, GREATEST + "/2"},
        {"-1/" + GREATEST, "-1", GREATEST, "1/" + GREATEST, "-1", "0", "0", "0", "1/" + GREATEST},
        {BELOW_HALF + "/" + GREATEST, BELOW_HALF, GREATEST, BELOW_HALF + "/" + GREATEST, "0", "1", "0", "0",
            "-" + BELOW_HALF + "/" + GREATEST},
        {HALF + "/" + GREATEST, HALF, GREATEST, HALF + "/" + GREATEST, "0", "1", "0", "1", "-" + HALF + "/" + GREATEST},
        {GREATEST, GREATEST, "1", GREATEST, GREATEST, GREATEST, GREATEST, GREATEST, "-" + GREATEST},
        {"-" + GREATEST, "-" + GREATEST, "1", GREATEST, "-" + GREATEST, "-" + GREATEST, "-" + GREATEST,
            "-" + GREATEST, GREATEST},
    };

    public static void main(String[] args) {
        Due.sentence("0 its N", () -> rounds(0));
        Due.sentence("1 its D", () -> rounds(1));
        Due.sentence("2 its size", () -> rounds(2));
        Due.sentence("3 the integer below or it", () -> rounds(3));
        Due.sentence("4 that above or it", () -> rounds(4));
        Due.sentence("5 that towards 0", () -> rounds(5));
        Due.sentence("6 the nearest one (of two the even one)", () -> rounds(6));
        Due.sentence("7 a with the other sign", () -> rounds(7));
        Due.sentence("7: 0 has none", RoundTest::otherSignOfZero);
        Due.sentence("A place holds what is made of a: the place may be a", RoundTest::onItself);
        Due.sentence("A place: no other one, nor text, nor tape", RoundTest::onlyThePlace);
        Due.sentence("NONE: no such place", RoundTest::noPlace);
        Due.sentence("NONE: no such operation", RoundTest::noOperation);
        Due.finish();
    }

    private static void rounds(int operation) {
        for (String[] row : ROWS) {
            Desk desk = new Desk();
            desk.put(4, row[0]);
            desk.put(9, "-1/7");
            String call = "round of " + row[0] + ", operation " + operation;
            Due.is(call, 0, desk.round(9, 4, operation));
            Due.holds(call, row[operation + 1], desk, 9);
            Due.holds("a of " + call, row[0], desk, 4);
            Due.is("isInteger after " + call, !row[operation + 1].contains("/"), desk.isInteger(9));
        }
    }

    private static void otherSignOfZero() {
        Desk desk = Desk.busy();
        Due.is("round", 0, desk.round(1, 2, 7));
        Due.holds("0 with the other sign", "0", desk, 1);
        Due.is("compare", 0, desk.compare(1, 2));
        Due.is("round of a small one below 0", 0, desk.round(0, 7, 4));
        Due.is("compare", 0, desk.compare(0, 2));
        Due.holds("the integer above a small one below 0", "0", desk, 0);
    }

    private static void onItself() {
        for (int operation = 0; operation < 8; operation++) {
            for (String[] row : ROWS) {
                Desk desk = new Desk();
                desk.put(9, row[0]);
                Due.is("round onto itself", 0, desk.round(9, 9, operation));
                Due.holds(row[0] + " onto itself, operation " + operation, row[operation + 1], desk, 9);
            }
        }
    }

    private static void onlyThePlace() {
        for (int operation = 0; operation < 8; operation++) {
            Desk desk = Desk.busy();
            Due.is("operation " + operation, 0, desk.round(2, 5, operation));
            desk.isBusyBut(2);
        }
    }

    private static void noPlace() {
        for (int wrong : Desk.NO_PLACES) {
            Desk desk = Desk.busy();
            for (int operation = 0; operation < 8; operation++) {
                int asked = operation;
                String call = "operation " + operation + " with place " + wrong;
                Due.refuses(call, desk, refusing -> refusing.round(wrong, 5, asked));
                Due.refuses(call + " as a", desk, refusing -> refusing.round(5, wrong, asked));
                Due.refuses(call + " as both", desk, refusing -> refusing.round(wrong, wrong, asked));
            }
        }
    }

    private static void noOperation() {
        Desk desk = Desk.busy();
        for (int operation : new int[] {-1, 8, 9, 10, 16, 256, -256, 65536, 1 << 28, Integer.MIN_VALUE,
            Integer.MAX_VALUE}) {
            Due.refuses("operation " + operation, desk, refusing -> refusing.round(0, 5, operation));
            Due.refuses("operation " + operation + " onto a", desk, refusing -> refusing.round(5, 5, operation));
        }
    }
}
