/** Promise 11: bits. */
public final class BitsTest {
    public static void main(String[] args) {
        Due.sentence("How many bits N's size has", BitsTest::ofSizes);
        Due.sentence("How many bits: of every power of 2, and one less", BitsTest::ofPowers);
        Due.sentence("(0: none)", BitsTest::ofZero);
        Due.sentence("N's, in least terms, not D's", BitsTest::ofFractions);
        Due.sentence("N below 2 to the power 2048", BitsTest::ofGreatest);
        Due.sentence("NONE for no such place", BitsTest::noPlace);
        Due.sentence("bits changes nothing", BitsTest::changesNothing);
        Due.finish();
    }

    private static void bitsOf(String number, int due) {
        Desk desk = new Desk();
        desk.put(15, number);
        Due.is("bits of " + number, due, desk.bits(15));
    }

    private static void ofSizes() {
        bitsOf("1", 1);
        bitsOf("-1", 1);
        bitsOf("2", 2);
        bitsOf("3", 2);
        bitsOf("-255", 8);
        bitsOf("-256", 9);
        bitsOf("2147483647", 31);
        bitsOf("-2147483648", 32);
        bitsOf("4611686018427387903", 62);
        bitsOf("-9223372036854775808", 64);
    }

    private static void ofPowers() {
        for (int exponent = 0; exponent < 2048; exponent++) {
            Desk desk = new Desk();
            desk.set(0, 2);
            desk.set(1, exponent);
            desk.set(3, 1);
            Due.is("the power", 0, desk.reckon(2, 0, 1, 7));
            Due.is("bits of 2 to the power " + exponent, exponent + 1, desk.bits(2));
            Due.is("one less", 0, desk.reckon(2, 2, 3, 1));
            Due.is("bits of one less", exponent, desk.bits(2));
        }
    }

    private static void ofZero() {
        bitsOf("0", 0);
        bitsOf("-0", 0);
        bitsOf("0/7", 0);
        Desk desk = Desk.busy();
        Due.is("without itself", 0, desk.reckon(6, 6, 6, 1));
        Due.is("bits of what became 0", 0, desk.bits(6));
        Due.is("bits of a new place", 0, new Desk().bits(0));
    }

    private static void ofFractions() {
        bitsOf("7/1024", 3);
        bitsOf("1024/7", 11);
        bitsOf("14/4", 3);
        bitsOf("-1/" + Desk.GREATEST, 1);
    }

    private static void ofGreatest() {
        bitsOf(Desk.GREATEST, 2048);
        bitsOf("-" + Desk.GREATEST, 2048);
        bitsOf(Desk.HALF, 2048);
        bitsOf(Desk.GREATEST + "/2", 2048);
    }

    private static void noPlace() {
        Desk desk = Desk.busy();
        for (int place : Desk.NO_PLACES) {
            Due.refuses("bits(" + place + ")", desk, refusing -> refusing.bits(place));
        }
    }

    private static void changesNothing() {
        Due.changesNothing("bits of -7/3", 3, Desk.busy(), desk -> desk.bits(5));
        Due.changesNothing("bits of the greatest", 2048, Desk.busy(), desk -> desk.bits(6));
    }
}
