/** Promise 12. */
public final class IsIntegerTest {
    public static void main(String[] args) {
        integer("0", true);
        integer("-5", true);
        integer("6/3", true);
        integer("0/3", true);
        integer("2147483648/2147483648", true);
        integer("1/2", false);
        integer("-7/3", false);
        integer("1/2147483648", false);
        integer("1/2147483649", false);
        integer("5/4611686018427387904", false);
        FractionDesk desk = new FractionDesk();
        for (int place : new int[] {-1, 16, Integer.MIN_VALUE, Integer.MAX_VALUE}) {
            Due.is("isInteger(" + place + ")", false, desk.isInteger(place));
        }
        Due.put(desk, 0, "1/2");
        desk.reckon(0, 0, 0, 0);
        Due.is("isInteger of a half and a half", true, desk.isInteger(0));
        Due.finish();
    }

    private static void integer(String number, boolean due) {
        FractionDesk desk = new FractionDesk();
        Due.put(desk, 15, number);
        Due.is("isInteger of " + number, due, desk.isInteger(15));
    }
}
