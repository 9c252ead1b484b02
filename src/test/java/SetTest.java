/** Promise 5: set. */
public final class SetTest {
    private static final long[] VALUES = {0, 1, -1, 7, -200, Integer.MAX_VALUE, Integer.MIN_VALUE, 1L << 31,
        -(1L << 31), 1L << 32, -(1L << 32), (1L << 32) - 1, (1L << 62) - 1, 1L << 62, -(1L << 62)};

    public static void main(String[] args) {
        Due.sentence("The place holds an integer", SetTest::placeHolds);
        Due.sentence("an integer: the least and the greatest", SetTest::ends);
        Due.sentence("The place: whatever it held, and no other one", SetTest::onlyThePlace);
        Due.sentence("What isn't as said is refused with NONE, and changes nothing", SetTest::noPlace);
        Due.finish();
    }

    private static void holds(long value) {
        Desk desk = new Desk();
        Due.is("set of " + value, 0, desk.set(15, value));
        Due.holds("set of " + value, Long.toString(value), desk, 15);
        Due.is("isInteger", true, desk.isInteger(15));
        Due.is("the same read", 0, desk.read(14, Long.toString(value)));
        Due.is("the same compared", 0, desk.compare(14, 15));
    }

    private static void placeHolds() {
        for (long value : VALUES) {
            holds(value);
        }
    }

    /** The size of the least one is no long. */
    private static void ends() {
        holds(Long.MAX_VALUE);
        holds(Long.MAX_VALUE - 1);
        holds(Long.MIN_VALUE);
        holds(Long.MIN_VALUE + 1);
        Desk desk = new Desk();
        desk.set(0, Long.MIN_VALUE);
        Due.is("bits of the least", 64, desk.bits(0));
        Due.is("the least is below 0", -1, desk.compare(0, 1));
        Due.is("the other sign", 0, desk.round(0, 0, 7));
        Due.holds("the least with the other sign", "9223372036854775808", desk, 0);
        desk.set(0, Long.MAX_VALUE);
        Due.is("bits of the greatest", 63, desk.bits(0));
    }

    private static void onlyThePlace() {
        for (int place = 0; place < 16; place++) {
            Desk desk = Desk.busy();
            Due.is("set(" + place + ", -12345)", 0, desk.set(place, -12345));
            Due.holds("place " + place, "-12345", desk, place);
            desk.isBusyBut(place);
        }
    }

    private static void noPlace() {
        for (int place : Desk.NO_PLACES) {
            Due.refuses("set(" + place + ", 5)", Desk.busy(), desk -> desk.set(place, 5));
            Due.refuses("set(" + place + ", the least)", Desk.busy(), desk -> desk.set(place, Long.MIN_VALUE));
        }
    }
}
