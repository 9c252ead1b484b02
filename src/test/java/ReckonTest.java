import java.math.BigInteger;

/** Promise 6. */
public final class ReckonTest {
    private static final BigInteger LIMIT = BigInteger.ONE.shiftLeft(2048);
    private static final String GREATEST = LIMIT.subtract(BigInteger.ONE).toString();
    private static final String HALF = LIMIT.shiftRight(1).toString();

    public static void main(String[] args) {
        sums();
        products();
        quotients();
        wholeQuotients();
        commonDivisors();
        powers();
        choices();
        refusals();
        samePlaces();
        Due.finish();
    }

    private static void sums() {
        gives("1/6", "1/3", 0, "1/2");
        gives("1/2", "1/2", 0, "1");
        gives("-1/2", "1/2", 0, "0");
        gives("-1/2", "1/3", 0, "-1/6");
        gives("5", "-7", 0, "-2");
        gives("2147483647", "1", 0, "2147483648");
        gives("4611686018427387903", "1", 0, "4611686018427387904");
        gives("1/2", "1/2", 1, "0");
        gives("0", "1/2", 1, "-1/2");
        gives("1/6", "-1/3", 1, "1/2");
        gives("-5", "-7", 1, "2");
        gives("0", "0", 1, "0");
        gives(GREATEST, "0", 0, GREATEST);
        gives(GREATEST, "-1", 0, LIMIT.subtract(BigInteger.TWO).toString());
        answers(GREATEST, "1", 0, -3);
        answers("-" + GREATEST, "1", 1, -3);
        answers(GREATEST, "1/2", 0, -3);
        answers(HALF, HALF, 0, -3);
        gives("-" + HALF, HALF, 0, "0");
        // On the way both terms are above the limit, and the sum is not.
        gives("1/" + GREATEST, "1/" + GREATEST, 1, "0");
        gives(HALF + "/" + GREATEST, LIMIT.shiftRight(1).subtract(BigInteger.ONE) + "/" + GREATEST, 0, "1");
        answers("1/" + GREATEST, "1/2", 0, -3);
    }

    private static void products() {
        gives("2/3", "3/2", 2, "1");
        gives("-2/3", "9/4", 2, "-3/2");
        gives("-2/3", "-1/5", 2, "2/15");
        gives("0", "-1/5", 2, "0");
        gives("-1/5", "0", 2, "0");
        gives(HALF, "3/" + HALF, 2, "3");
        gives(GREATEST + "/2", "2/" + GREATEST, 2, "1");
        gives(HALF, "-1", 2, "-" + HALF);
        answers(HALF, "2", 2, -3);
        answers("1/" + HALF, "1/2", 2, -3);
        answers(GREATEST, GREATEST, 2, -3);
        gives(BigInteger.ONE.shiftLeft(1024).toString(), BigInteger.ONE.shiftLeft(1023).toString(), 2, HALF);
    }

    private static void quotients() {
        gives("1", "2", 3, "1/2");
        gives("-1", "2", 3, "-1/2");
        gives("1", "-2", 3, "-1/2");
        gives("-6", "-4", 3, "3/2");
        gives("2/3", "4/9", 3, "3/2");
        gives("0", "-4/9", 3, "0");
        gives(GREATEST, GREATEST, 3, "1");
        gives("1/" + GREATEST, "1/" + GREATEST, 3, "1");
        answers(HALF, "1/2", 3, -3);
        answers("1/2", HALF, 3, -3);
        answers("1", "0", 3, -2);
        answers("0", "0", 3, -2);
        answers("1/2", "0", 3, -2);
    }

    private static void wholeQuotients() {
        String[][] rows = {{"7", "2", "3", "1"}, {"-7", "2", "-4", "1"}, {"7", "-2", "-4", "-1"},
            {"-7", "-2", "3", "-1"}, {"6", "2", "3", "0"}, {"-6", "2", "-3", "0"}, {"6", "-2", "-3", "0"},
            {"-6", "-2", "3", "0"}, {"0", "5", "0", "0"}, {"0", "-5", "0", "0"}, {"1", "5", "0", "1"},
            {"-1", "5", "-1", "4"}, {"1", "-5", "-1", "-4"}, {"-1", "-5", "0", "-1"},
            {"4611686018427387904", "2147483648", "2147483648", "0"},
            {"-4611686018427387904", "2147483647", "-2147483650", "2147483646"}};
        for (String[] row : rows) {
            gives(row[0], row[1], 4, row[2]);
            gives(row[0], row[1], 5, row[3]);
        }
        gives("-" + GREATEST, "1", 4, "-" + GREATEST);
        gives("-1", GREATEST, 4, "-1");
        gives("-1", GREATEST, 5, LIMIT.subtract(BigInteger.TWO).toString());
        for (int operation = 4; operation <= 5; operation++) {
            answers("1", "0", operation, -2);
            answers("0", "0", operation, -2);
            answers("1/2", "1", operation, FractionDesk.NONE);
            answers("1", "1/2", operation, FractionDesk.NONE);
            answers("1/2", "0", operation, FractionDesk.NONE);
        }
    }

    private static void commonDivisors() {
        gives("12", "18", 6, "6");
        gives("-12", "18", 6, "6");
        gives("12", "-18", 6, "6");
        gives("-12", "-18", 6, "6");
        gives("0", "0", 6, "0");
        gives("0", "-5", 6, "5");
        gives("-5", "0", 6, "5");
        gives("17", "5", 6, "1");
        gives(GREATEST, GREATEST, 6, GREATEST);
        gives(GREATEST, HALF, 6, "1");
        answers("1/2", "1", 6, FractionDesk.NONE);
        answers("1", "1/2", 6, FractionDesk.NONE);
        // The longest way for Euclid: two neighbours of Fibonacci's row, and a multiple of them.
        BigInteger low = BigInteger.ONE;
        BigInteger high = BigInteger.ONE;
        while (high.bitLength() < 2030) {
            BigInteger next = low.add(high);
            low = high;
            high = next;
        }
        gives(low.toString(), high.toString(), 6, "1");
        BigInteger prime = BigInteger.valueOf(65537);
        gives(high.multiply(prime).toString(), low.multiply(prime).toString(), 6, "65537");
    }

    private static void powers() {
        gives("2", "10", 7, "1024");
        gives("-2", "3", 7, "-8");
        gives("-2", "4", 7, "16");
        gives("-2/3", "5", 7, "-32/243");
        gives("5/7", "1", 7, "5/7");
        gives("5/7", "0", 7, "1");
        gives("0", "0", 7, "1");
        gives("0", "1", 7, "0");
        gives("0", "10000", 7, "0");
        gives("1", "10000", 7, "1");
        gives("-1", "10000", 7, "1");
        gives("-1", "9999", 7, "-1");
        gives("2", "2047", 7, HALF);
        gives("1/2", "2047", 7, "1/" + HALF);
        answers("2", "2048", 7, -3);
        answers("1/2", "2048", 7, -3);
        answers("-3/2", "10000", 7, -3);
        gives("3", "1292", 7, BigInteger.valueOf(3).pow(1292).toString());
        answers("3", "1293", 7, -3);
        answers("1", "10001", 7, FractionDesk.NONE);
        answers("1", "-1", 7, FractionDesk.NONE);
        answers("0", "-1", 7, FractionDesk.NONE);
        answers("1", "1/2", 7, FractionDesk.NONE);
        answers("1", "4294967296", 7, FractionDesk.NONE);
        answers("1", "2147483648", 7, FractionDesk.NONE);
        answers("1", GREATEST, 7, FractionDesk.NONE);
    }

    private static void choices() {
        gives("1/2", "1/3", 8, "1/3");
        gives("1/2", "1/3", 9, "1/2");
        gives("-1/2", "1/3", 8, "-1/2");
        gives("-1/2", "1/3", 9, "1/3");
        gives("-1/2", "-1/3", 8, "-1/2");
        gives("-1/2", "-1/3", 9, "-1/3");
        gives("0", "-5", 8, "-5");
        gives("0", "-5", 9, "0");
        gives("4", "4", 8, "4");
        gives("4", "4", 9, "4");
    }

    private static void refusals() {
        for (int operation : new int[] {-1, 10, Integer.MIN_VALUE, Integer.MAX_VALUE}) {
            answers("1", "2", operation, FractionDesk.NONE);
            answers("1/2", "0", operation, FractionDesk.NONE);
        }
        FractionDesk desk = new FractionDesk();
        for (int place : new int[] {-1, 16, Integer.MIN_VALUE, Integer.MAX_VALUE}) {
            for (int operation = 0; operation < 10; operation++) {
                Due.is("no place", FractionDesk.NONE, desk.reckon(place, 0, 1, operation));
                Due.is("no a", FractionDesk.NONE, desk.reckon(0, place, 1, operation));
                Due.is("no b", FractionDesk.NONE, desk.reckon(0, 1, place, operation));
            }
        }
        Due.holds("the place after all", "0", desk, 0);
    }

    private static void samePlaces() {
        FractionDesk desk = new FractionDesk();
        Due.put(desk, 3, "-3/4");
        Due.is("doubled", 0, desk.reckon(3, 3, 3, 0));
        Due.holds("doubled", "-3/2", desk, 3);
        Due.is("squared", 0, desk.reckon(3, 3, 3, 2));
        Due.holds("squared", "9/4", desk, 3);
        Due.is("by itself", 0, desk.reckon(3, 3, 3, 3));
        Due.holds("by itself", "1", desk, 3);
        desk.set(3, 5);
        Due.is("to the power of itself", 0, desk.reckon(3, 3, 3, 7));
        Due.holds("to the power of itself", "3125", desk, 3);
        desk.set(4, -7);
        Due.is("over the first", 0, desk.reckon(4, 4, 3, 5));
        Due.holds("over the first", "3118", desk, 4);
        Due.is("over the second", 0, desk.reckon(3, 4, 3, 4));
        Due.holds("over the second", "0", desk, 3);
        Due.is("without itself", 0, desk.reckon(4, 4, 4, 1));
        Due.holds("without itself", "0", desk, 4);
    }

    private static void gives(String a, String b, int operation, String due) {
        FractionDesk desk = desk(a, b);
        String call = a + " with " + b + ", operation " + operation;
        Due.is(call, 0, desk.reckon(0, 15, 7, operation));
        Due.holds(call, due, desk, 0);
        Due.holds("a of " + call, a, desk, 15);
        Due.holds("b of " + call, b, desk, 7);
    }

    private static void answers(String a, String b, int operation, int due) {
        FractionDesk desk = desk(a, b);
        String call = a + " with " + b + ", operation " + operation;
        Due.is(call, due, desk.reckon(0, 15, 7, operation));
        Due.holds("the place after " + call, "-11/13", desk, 0);
        Due.is(call + " onto a", due, desk.reckon(15, 15, 7, operation));
        Due.holds("a after " + call, a, desk, 15);
    }

    /** The places already hold least terms, so that they can be asked for as they came. */
    private static FractionDesk desk(String a, String b) {
        FractionDesk desk = new FractionDesk();
        Due.put(desk, 0, "-11/13");
        Due.put(desk, 15, a);
        Due.put(desk, 7, b);
        return desk;
    }
}
