import java.math.BigInteger;

/** Promise 8. */
public final class CompareTest {
    public static void main(String[] args) {
        BigInteger limit = BigInteger.ONE.shiftLeft(2048);
        String greatest = limit.subtract(BigInteger.ONE).toString();
        String almost = limit.subtract(BigInteger.TWO).toString();
        // Ever greater, so that each one's order to each other is known by their numbers here.
        String[] row = {"-" + greatest, "-2147483648", "-2147483647", "-7/2", "-10/3", "-1", "-1/2",
            "-1/3", "-1/" + greatest, "0", "1/" + greatest, "1/" + almost, "1/3", "1/2",
            almost + "/" + greatest, "1"};
        FractionDesk desk = new FractionDesk();
        for (int i = 0; i < row.length; i++) {
            Due.put(desk, i, row[i]);
        }
        for (int i = 0; i < row.length; i++) {
            for (int j = 0; j < row.length; j++) {
                Due.is(row[i] + " compared with " + row[j], Integer.compare(i, j), desk.compare(i, j));
            }
        }
        for (int place : new int[] {-1, 16, Integer.MIN_VALUE, Integer.MAX_VALUE}) {
            Due.is("no a", -2, desk.compare(place, 0));
            Due.is("no b", -2, desk.compare(0, place));
            Due.is("neither", -2, desk.compare(place, place));
        }
        sameNumberOfTwoPlaces();
        Due.finish();
    }

    private static void sameNumberOfTwoPlaces() {
        FractionDesk desk = new FractionDesk();
        Due.put(desk, 1, "-6/4");
        Due.put(desk, 2, "-9/6");
        Due.is("the same", 0, desk.compare(1, 2));
        Due.is("itself", 0, desk.compare(1, 1));
        Due.holds("a is as it was", "-3/2", desk, 1);
    }
}
