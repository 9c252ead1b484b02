import java.math.BigInteger;

/** Promise 8: compare. */
public final class CompareTest {
    private static final String ALMOST = Desk.LIMIT.subtract(BigInteger.TWO).toString();

    /** Ever greater, so that each one's order to each other is known by their numbers here. */
    private static final String[] ROW = {"-" + Desk.GREATEST, "-" + ALMOST, "-2147483648", "-7/2", "-10/3", "-1",
        "-1/" + ALMOST, "-1/" + Desk.GREATEST, "0", "1/" + Desk.GREATEST, "1/" + ALMOST, "1/3", "1/2",
        ALMOST + "/" + Desk.GREATEST, "1", Desk.GREATEST};

    public static void main(String[] args) {
        Due.sentence("-1, 0, 1 as a is less than, the same as, greater than b", CompareTest::everyTwo);
        Due.sentence("the same as: of one place, and of two", CompareTest::same);
        Due.sentence("-2 when a place is none", CompareTest::noPlace);
        Due.sentence("compare changes nothing", CompareTest::changesNothing);
        Due.finish();
    }

    private static void everyTwo() {
        for (int i = 0; i < ROW.length; i++) {
            for (int j = 0; j < ROW.length; j++) {
                Desk desk = new Desk();
                desk.put(0, ROW[i]);
                desk.put(15, ROW[j]);
                Due.is(ROW[i] + " compared with " + ROW[j], Integer.compare(i, j), desk.compare(0, 15));
            }
        }
    }

    private static void same() {
        Desk desk = new Desk();
        desk.put(1, "-6/4");
        desk.put(2, "-9/6");
        Due.is("two places", 0, desk.compare(1, 2));
        for (int place = 0; place < 16; place++) {
            Due.is("place " + place + " with itself", 0, Desk.busy().compare(place, place));
        }
    }

    private static void noPlace() {
        for (int wrong : Desk.NO_PLACES) {
            Desk desk = Desk.busy();
            Due.changesNothing("compare(" + wrong + ", 0)", -2, desk, asked -> asked.compare(wrong, 0));
            Due.changesNothing("compare(0, " + wrong + ")", -2, desk, asked -> asked.compare(0, wrong));
            Due.changesNothing("compare of none", -2, desk, asked -> asked.compare(wrong, wrong));
        }
    }

    private static void changesNothing() {
        Due.changesNothing("-7/3 compared with 1/2", -1, Desk.busy(), asked -> asked.compare(5, 4));
        Due.changesNothing("the greatest compared with 1", 1, Desk.busy(), asked -> asked.compare(6, 0));
        Due.changesNothing("a place compared with itself", 0, Desk.busy(), asked -> asked.compare(7, 7));
    }
}
