/** Promise 5. */
public final class SetTest {
    public static void main(String[] args) {
        FractionDesk desk = new FractionDesk();
        for (long value : new long[] {0, 1, -1, 7, -200, Integer.MAX_VALUE, Integer.MIN_VALUE,
            1L << 31, -(1L << 31), 1L << 62, -(1L << 62), (1L << 62) - 1, Long.MAX_VALUE,
            Long.MIN_VALUE, Long.MIN_VALUE + 1}) {
            Due.put(desk, 15, "-1/3");
            Due.is("set(15, " + value + ")", 0, desk.set(15, value));
            Due.holds("set(15, " + value + ")", Long.toString(value), desk, 15);
            Due.is("isInteger", true, desk.isInteger(15));
        }
        for (int place = 0; place < 16; place++) {
            Due.is("set", 0, desk.set(place, 100 - place));
        }
        for (int place : new int[] {-1, 16, Integer.MIN_VALUE, Integer.MAX_VALUE}) {
            Due.is("set(" + place + ", 5)", FractionDesk.NONE, desk.set(place, 5));
        }
        for (int place = 0; place < 16; place++) {
            Due.holds("place " + place, Integer.toString(100 - place), desk, place);
        }
        Due.finish();
    }
}
