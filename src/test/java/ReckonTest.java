import java.math.BigInteger;

/** Promise 6: reckon, what it answers when the place then holds the number. */
public final class ReckonTest {
    private static final String GREATEST = Desk.GREATEST;
    private static final String HALF = Desk.HALF;

    public static void main(String[] args) {
        Due.sentence("0 sum", ReckonTest::sums);
        Due.sentence("1 difference", ReckonTest::differences);
        Due.sentence("2 product", ReckonTest::products);
        Due.sentence("3 quotient", ReckonTest::quotients);
        Due.sentence("4 the quotient of integers downwards", () -> wholeQuotients(4, 2));
        Due.sentence("5 the rest of that (of b's sign, or 0)", () -> wholeQuotients(5, 3));
        Due.sentence("4, 5: the greatest integers", ReckonTest::greatestWholeQuotients);
        Due.sentence("6 their greatest common divisor (of integers; not below 0)", ReckonTest::commonDivisors);
        Due.sentence("6: by the longest way", ReckonTest::longestCommonDivisor);
        Due.sentence("7 a to the power b", ReckonTest::powers);
        Due.sentence("7: b 0; 0 to the power 0 is 1", ReckonTest::powersOfZero);
        Due.sentence("7: b 10000", ReckonTest::greatestPowers);
        Due.sentence("8 the less", ReckonTest::less);
        Due.sentence("9 the greater one", ReckonTest::greater);
        Due.sentence("A place holds a with b: the place may be a, or b, or both", ReckonTest::samePlaces);
        Due.sentence("A place: no other one, nor text, nor tape", ReckonTest::onlyThePlace);
        Due.finish();
    }

    private static void gives(String a, String b, int operation, String due) {
        Desk desk = new Desk();
        desk.put(0, "-11/13");
        desk.put(15, a);
        desk.put(7, b);
        String call = a + " with " + b + ", operation " + operation;
        Due.is(call, 0, desk.reckon(0, 15, 7, operation));
        Due.holds(call, due, desk, 0);
        Due.holds("a of " + call, a, desk, 15);
        Due.holds("b of " + call, b, desk, 7);
    }

    private static void sums() {
        gives("1/6", "1/3", 0, "1/2");
        gives("1/2", "1/2", 0, "1");
        gives("-1/2", "1/2", 0, "0");
        gives("-1/2", "1/3", 0, "-1/6");
        gives("5", "-7", 0, "-2");
        gives("2147483647", "1", 0, "2147483648");
        gives("4611686018427387903", "1", 0, "4611686018427387904");
        gives("9223372036854775807", "9223372036854775807", 0, "18446744073709551614");
        gives(GREATEST, "0", 0, GREATEST);
        gives(GREATEST, "-1", 0, Desk.LIMIT.subtract(BigInteger.TWO).toString());
        gives("-" + HALF, HALF, 0, "0");
        // On the way both terms are above the limit, and the sum is not.
        gives(HALF + "/" + GREATEST, Desk.LIMIT.shiftRight(1).subtract(BigInteger.ONE) + "/" + GREATEST, 0, "1");
    }

    private static void differences() {
        gives("1/2", "1/2", 1, "0");
        gives("0", "1/2", 1, "-1/2");
        gives("1/6", "-1/3", 1, "1/2");
        gives("-5", "-7", 1, "2");
        gives("0", "0", 1, "0");
        gives("-9223372036854775808", "9223372036854775808", 1, "-18446744073709551616");
        gives("1/" + GREATEST, "1/" + GREATEST, 1, "0");
        gives("0", GREATEST, 1, "-" + GREATEST);
    }

    private static void products() {
        gives("2/3", "3/2", 2, "1");
        gives("-2/3", "9/4", 2, "-3/2");
        gives("-2/3", "-1/5", 2, "2/15");
        gives("0", "-1/5", 2, "0");
        gives("-1/5", "0", 2, "0");
        gives("4294967296", "-4294967296", 2, "-18446744073709551616");
        gives(HALF, "3/" + HALF, 2, "3");
        gives(GREATEST + "/2", "2/" + GREATEST, 2, "1");
        gives(HALF, "-1", 2, "-" + HALF);
        gives(BigInteger.ONE.shiftLeft(1024).toString(), BigInteger.ONE.shiftLeft(1023).toString(), 2, HALF);
    }

    private static void quotients() {
        gives("1", "2", 3, "1/2");
        gives("-1", "2", 3, "-1/2");
        gives("1", "-2", 3, "-1/2");
        gives("-6", "-4", 3, "3/2");
        gives("2/3", "4/9", 3, "3/2");
        gives("0", "-4/9", 3, "0");
        gives(GREATEST, GREATEST, 3, "1");
        gives(GREATEST, "-" + HALF, 3, "-" + GREATEST + "/" + HALF);
        gives("1/" + GREATEST, "1/" + GREATEST, 3, "1");
        gives("1", "-1/" + GREATEST, 3, "-" + GREATEST);
    }

    private static void wholeQuotients(int operation, int column) {
        String[][] rows = {{"7", "2", "3", "1"}, {"-7", "2", "-4", "1"}, {"7", "-2", "-4", "-1"},
            {"-7", "-2", "3", "-1"}, {"6", "2", "3", "0"}, {"-6", "2", "-3", "0"}, {"6", "-2", "-3", "0"},
            {"-6", "-2", "3", "0"}, {"0", "5", "0", "0"}, {"0", "-5", "0", "0"}, {"1", "5", "0", "1"},
            {"-1", "5", "-1", "4"}, {"1", "-5", "-1", "-4"}, {"-1", "-5", "0", "-1"},
            {"-9223372036854775808", "-1", "9223372036854775808", "0"},
            {"4611686018427387904", "2147483648", "2147483648", "0"},
            {"-4611686018427387904", "2147483647", "-2147483650", "2147483646"}};
        for (String[] row : rows) {
            gives(row[0], row[1], operation, row[column]);
        }
    }

    private static void greatestWholeQuotients() {
        gives("-" + GREATEST, "1", 4, "-" + GREATEST);
        gives("-" + GREATEST, "1", 5, "0");
        gives("-" + GREATEST, "-1", 4, GREATEST);
        gives("-" + GREATEST, "2", 4, "-" + HALF);
        gives("-" + GREATEST, "2", 5, "1");
        gives("-1", GREATEST, 4, "-1");
        gives("-1", GREATEST, 5, Desk.LIMIT.subtract(BigInteger.TWO).toString());
        gives("1", "-" + GREATEST, 5, Desk.LIMIT.subtract(BigInteger.TWO).negate().toString());
        gives(GREATEST, GREATEST, 4, "1");
        gives(GREATEST, HALF, 5, Desk.LIMIT.shiftRight(1).subtract(BigInteger.ONE).toString());
    }

    private static void commonDivisors() {
        gives("12", "18", 6, "6");
        gives("-12", "18", 6, "6");
        gives("12", "-18", 6, "6");
        gives("-12", "-18", 6, "6");
        gives("0", "0", 6, "0");
        gives("0", "-5", 6, "5");
        gives("-5", "0", 6, "5");
        gives("-1", "-1", 6, "1");
        gives("17", "5", 6, "1");
        gives("0", "-" + GREATEST, 6, GREATEST);
        gives("-" + GREATEST, GREATEST, 6, GREATEST);
        gives(GREATEST, HALF, 6, "1");
    }

    /** Two neighbours of Fibonacci's row, and a multiple of them. */
    private static void longestCommonDivisor() {
        BigInteger low = BigInteger.ONE;
        BigInteger high = BigInteger.ONE;
        while (high.bitLength() < 2030) {
            BigInteger next = low.add(high);
            low = high;
            high = next;
        }
        gives(low.toString(), high.toString(), 6, "1");
        BigInteger prime = BigInteger.valueOf(65537);
        gives(high.multiply(prime).toString(), low.multiply(prime).toString(), 6, "65537");
    }

    private static void powers() {
        gives("2", "10", 7, "1024");
        gives("-2", "3", 7, "-8");
        gives("-2", "4", 7, "16");
        gives("-2/3", "5", 7, "-32/243");
        gives("5/7", "1", 7, "5/7");
        gives("2", "2047", 7, HALF);
        gives("-2", "2047", 7, "-" + HALF);
        gives("1/2", "2047", 7, "1/" + HALF);
        gives("3", "1292", 7, BigInteger.valueOf(3).pow(1292).toString());
        gives(GREATEST, "1", 7, GREATEST);
    }

    private static void powersOfZero() {
        gives("0", "0", 7, "1");
        gives("5/7", "0", 7, "1");
        gives("-5", "0", 7, "1");
        gives("-" + GREATEST, "0", 7, "1");
        gives("0", "1", 7, "0");
        gives("0", "2", 7, "0");
    }

    private static void greatestPowers() {
        gives("0", "10000", 7, "0");
        gives("1", "10000", 7, "1");
        gives("-1", "10000", 7, "1");
        gives("-1", "9999", 7, "-1");
    }

    private static void less() {
        gives("1/2", "1/3", 8, "1/3");
        gives("1/3", "1/2", 8, "1/3");
        gives("-1/2", "1/3", 8, "-1/2");
        gives("-1/2", "-1/3", 8, "-1/2");
        gives("0", "-5", 8, "-5");
        gives("4", "4", 8, "4");
        gives("-" + GREATEST, GREATEST, 8, "-" + GREATEST);
    }

    private static void greater() {
        gives("1/2", "1/3", 9, "1/2");
        gives("1/3", "1/2", 9, "1/2");
        gives("-1/2", "1/3", 9, "1/3");
        gives("-1/2", "-1/3", 9, "-1/3");
        gives("0", "-5", 9, "0");
        gives("4", "4", 9, "4");
        gives("-" + GREATEST, GREATEST, 9, GREATEST);
    }

    private static void samePlaces() {
        Desk desk = new Desk();
        desk.put(3, "-3/4");
        becomes(desk, 3, 3, 3, 0, "-3/2");
        becomes(desk, 3, 3, 3, 2, "9/4");
        becomes(desk, 3, 3, 3, 8, "9/4");
        becomes(desk, 3, 3, 3, 3, "1");
        desk.set(3, 5);
        becomes(desk, 3, 3, 3, 7, "3125");
        desk.set(4, -7);
        becomes(desk, 4, 4, 3, 5, "3118");
        becomes(desk, 3, 4, 3, 4, "0");
        becomes(desk, 4, 4, 4, 1, "0");
        desk.set(4, -6);
        becomes(desk, 4, 4, 4, 6, "6");
        becomes(desk, 3, 4, 4, 9, "6");
    }

    private static void becomes(Desk desk, int place, int a, int b, int operation, String due) {
        Due.is("reckon, operation " + operation, 0, desk.reckon(place, a, b, operation));
        Due.holds("the place after operation " + operation, due, desk, place);
    }

    private static void onlyThePlace() {
        for (int operation = 0; operation < 10; operation++) {
            Desk desk = Desk.busy();
            Due.is("operation " + operation, 0, desk.reckon(2, 9, 8, operation));
            desk.isBusyBut(2);
        }
    }
}
