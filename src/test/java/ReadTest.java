import java.math.BigInteger;

/** Promise 4. */
public final class ReadTest {
    private static final BigInteger LIMIT = BigInteger.ONE.shiftLeft(2048);

    public static void main(String[] args) {
        texts();
        noTexts();
        limits();
        noPlace();
        Due.finish();
    }

    private static void texts() {
        reads("0", "0");
        reads("-0", "0");
        reads("-0/5", "0");
        reads("0/000007", "0");
        reads("7", "7");
        reads("-7", "-7");
        reads("007", "7");
        reads("-007/0014", "-1/2");
        reads("6/4", "3/2");
        reads("4/2", "2");
        reads("-10/5", "-2");
        reads("1/1", "1");
        reads("123456789012345678901234567890/987654321098765432109876543210",
            "13717421/109739369");
        reads("2147483648", "2147483648");
        reads("4611686018427387904/2147483648", "2147483648");
        reads("1000000000000000000/1000000000", "1000000000");
    }

    private static void reads(String text, String due) {
        FractionDesk desk = new FractionDesk();
        Due.is("read of " + text, 0, Due.read(desk, 15, text));
        Due.is("the tape is empty after " + text, false, desk.end(1));
        Due.holds(text, due, desk, 15);
        Due.holds("another place", "0", desk, 14);
    }

    private static void noTexts() {
        for (String text : new String[] {"", "-", "/", "-/", "1/", "/1", "-/1", "1/-2", "--1",
            "+1", "1/0", "0/0", "1/000", "1//2", "1/2/3", "1/2/", " 1", "1 ", "1/ 2", "1.5",
            "12a", "a", "1-", "1/2-", "-1/", "1\n", "1:", "1/2:", ";", "1e5"}) {
            refuses(text);
        }
    }

    private static void refuses(String text) {
        FractionDesk desk = new FractionDesk();
        Due.put(desk, 2, "-5/3");
        Due.is("read of " + text, FractionDesk.NONE, Due.read(desk, 2, text));
        Due.is("the tape is empty after " + text, false, desk.end(1));
        Due.holds("the place after " + text, "-5/3", desk, 2);
    }

    private static void limits() {
        String greatest = LIMIT.subtract(BigInteger.ONE).toString();
        String beyond = LIMIT.toString();
        String zeros = "0".repeat(60);
        reads(greatest, greatest);
        reads("-" + greatest, "-" + greatest);
        reads("1/" + greatest, "1/" + greatest);
        reads(zeros + greatest + "/" + zeros + greatest, "1");
        reads("-" + "0".repeat(1398) + "9", "-9");
        refuses(beyond);
        refuses("-" + beyond);
        refuses("1/" + beyond);
        refuses(beyond + "/" + beyond);
        refuses("0/" + beyond);
        refuses(LIMIT.shiftLeft(1) + "/2");
        refuses("1" + "0".repeat(617));
        refuses("9".repeat(1400));
        refuses("1/" + "9".repeat(1398));
    }

    private static void noPlace() {
        for (int place : new int[] {-1, 16, Integer.MIN_VALUE, Integer.MAX_VALUE}) {
            FractionDesk desk = new FractionDesk();
            Due.is("read(" + place + ")", FractionDesk.NONE, Due.read(desk, place, "5"));
            Due.is("the tape is empty after read(" + place + ")", false, desk.end(1));
        }
    }
}
