/** Promise 11. */
public final class BitsTest {
    public static void main(String[] args) {
        FractionDesk desk = new FractionDesk();
        desk.set(0, 2);
        for (int exponent = 0; exponent < 2048; exponent++) {
            if (exponent % 500 == 499) {
                desk = new FractionDesk();
                desk.set(0, 2);
            }
            desk.set(1, exponent);
            desk.reckon(2, 0, 1, 7);
            Due.is("bits of 2 to the power " + exponent, exponent + 1, desk.bits(2));
        }
        bitsOf("0", 0);
        bitsOf("1", 1);
        bitsOf("-1", 1);
        bitsOf("3", 2);
        bitsOf("-255", 8);
        bitsOf("-256", 9);
        bitsOf("2147483647", 31);
        bitsOf("4611686018427387903", 62);
        bitsOf("-9223372036854775808", 64);
        bitsOf("7/1024", 3);
        bitsOf("1024/7", 11);
        bitsOf("14/4", 3);
        for (int place : new int[] {-1, 16, Integer.MIN_VALUE, Integer.MAX_VALUE}) {
            Due.is("bits(" + place + ")", FractionDesk.NONE, desk.bits(place));
        }
        Due.finish();
    }

    private static void bitsOf(String number, int due) {
        FractionDesk desk = new FractionDesk();
        Due.put(desk, 15, number);
        Due.is("bits of " + number, due, desk.bits(15));
    }
}
