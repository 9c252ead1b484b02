/** Promise 12: isInteger. */
public final class IsIntegerTest {
    public static void main(String[] args) {
        Due.sentence("Whether a place holds an integer: it does", IsIntegerTest::integers);
        Due.sentence("Whether a place holds an integer: it does not", IsIntegerTest::noIntegers);
        Due.sentence("an INTEGER has D 1: also what became one", IsIntegerTest::becameInteger);
        Due.sentence("false for no such place", IsIntegerTest::noPlace);
        Due.sentence("isInteger changes nothing", IsIntegerTest::changesNothing);
        Due.finish();
    }

    private static void asked(String number, boolean due) {
        Desk desk = new Desk();
        desk.put(15, number);
        Due.is("isInteger of " + number, due, desk.isInteger(15));
    }

    private static void integers() {
        for (String number : new String[] {"0", "-5", "6/3", "0/3", "-0/7", "2147483648/2147483648", Desk.GREATEST,
            "-" + Desk.GREATEST, Desk.GREATEST + "/" + Desk.GREATEST}) {
            asked(number, true);
        }
        for (int place = 0; place < 16; place++) {
            Due.is("isInteger of a new place " + place, true, new Desk().isInteger(place));
        }
    }

    /** Also D's with a lowest limb, or a lowest word, of 0 or 1. */
    private static void noIntegers() {
        for (String number : new String[] {"1/2", "-7/3", "1/2147483648", "1/2147483649", "1/4294967297",
            "5/4611686018427387904", "5/4611686018427387905", "1/18446744073709551617", "1/" + Desk.GREATEST,
            Desk.GREATEST + "/2", "-" + Desk.GREATEST + "/" + Desk.HALF}) {
            asked(number, false);
        }
    }

    private static void becameInteger() {
        Desk desk = new Desk();
        desk.put(0, "1/2");
        Due.is("isInteger of a half", false, desk.isInteger(0));
        Due.is("sum", 0, desk.reckon(0, 0, 0, 0));
        Due.is("isInteger of a half and a half", true, desk.isInteger(0));
        desk.set(1, 3);
        Due.is("quotient", 0, desk.reckon(0, 0, 1, 3));
        Due.is("isInteger of a third", false, desk.isInteger(0));
        Due.is("its N", 0, desk.round(0, 0, 0));
        Due.is("isInteger of its N", true, desk.isInteger(0));
    }

    private static void noPlace() {
        Desk desk = Desk.busy();
        for (int place : Desk.NO_PLACES) {
            Due.changesNothing("isInteger(" + place + ")", 0, desk, asked -> asked.isInteger(place) ? 1 : 0);
        }
    }

    private static void changesNothing() {
        Due.changesNothing("isInteger of -7/3", 0, Desk.busy(), desk -> desk.isInteger(5) ? 1 : 0);
        Due.changesNothing("isInteger of the greatest", 1, Desk.busy(), desk -> desk.isInteger(6) ? 1 : 0);
    }
}
