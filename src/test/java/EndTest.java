/** Promise 3: end. */
public final class EndTest {
    public static void main(String[] args) {
        Due.sentence("Of the tape only the first n bytes count", EndTest::firstCount);
        Due.sentence("the first n: all of them", EndTest::allCount);
        Due.sentence("the first n: none of them", EndTest::noneCounts);
        Due.sentence("only the first n: the others do not come back", EndTest::othersAreGone);
        Due.sentence("false, changing nothing, when it has not so many", EndTest::notSoMany);
        Due.sentence("when it has not so many: it is empty", EndTest::empty);
        Due.sentence("when it has not so many: it is full", EndTest::full);
        Due.sentence("false, changing nothing, when n is below 0", EndTest::belowZero);
        Due.finish();
    }

    private static Desk withTape(String text) {
        Desk desk = Desk.busy();
        desk.end(0);
        desk.append(0, text);
        return desk;
    }

    private static void refuses(Desk desk, int n) {
        Due.changesNothing("end(" + n + ")", 0, desk, refusing -> refusing.end(n) ? 1 : 0);
    }

    private static void firstCount() {
        Desk desk = withTape("12345678");
        Due.is("end(5)", true, desk.end(5));
        Due.is("the length", 5, desk.tapeLength());
        Due.is("read", 0, desk.read(1));
        Due.holds("five bytes", "12345", desk, 1);
        desk = withTape("12/34/5");
        Due.is("end(5)", true, desk.end(5));
        Due.is("read", 0, desk.read(1));
        Due.holds("no second stroke", "6/17", desk, 1);
        desk = withTape("12345678");
        Due.is("end(1)", true, desk.end(1));
        Due.is("read", 0, desk.read(1));
        Due.holds("one byte", "1", desk, 1);
    }

    private static void allCount() {
        Desk desk = withTape("12345678");
        Due.changesNothing("end(8)", 1, desk, whole -> whole.end(8) ? 1 : 0);
        Due.is("read", 0, desk.read(1));
        Due.holds("eight bytes", "12345678", desk, 1);
        Due.changesNothing("end(0) of an empty tape", 1, desk, none -> none.end(0) ? 1 : 0);
    }

    private static void noneCounts() {
        Desk desk = withTape("12345678");
        Due.is("end(0)", true, desk.end(0));
        Due.is("the length", 0, desk.tapeLength());
        Due.refuses("read of nothing", desk, empty -> empty.read(1));
    }

    private static void othersAreGone() {
        Desk desk = withTape("12345678");
        Due.is("end(3)", true, desk.end(3));
        refuses(desk, 4);
        refuses(desk, 8);
        Due.is("feed", true, desk.feed(0x39393900, 0, 0, 0, 0));
        Due.is("end(6)", true, desk.end(6));
        Due.is("read", 0, desk.read(1));
        Due.holds("behind the third byte", "123999", desk, 1);
    }

    private static void notSoMany() {
        Desk desk = withTape("12345678");
        for (int n : new int[] {9, 10, 20, 21, 1400, 1401, 256 + 8, 65536 + 8, Integer.MAX_VALUE}) {
            refuses(desk, n);
        }
        desk = new Desk();
        desk.feed(0x31323334, 0, 0, 0, 0);
        refuses(desk, 21);
        Due.is("end(20)", true, desk.end(20));
    }

    private static void empty() {
        refuses(new Desk(), 1);
        refuses(new Desk(), Integer.MAX_VALUE);
        Desk desk = withTape("12345678");
        desk.read(1);
        refuses(desk, 1);
        refuses(desk, 8);
    }

    private static void full() {
        Desk desk = new Desk();
        for (int i = 0; i < 70; i++) {
            desk.feed(0x30303030, 0x30303030, 0x30303030, 0x30303030, 0x30303031);
        }
        refuses(desk, 1401);
        refuses(desk, 1420);
        Due.is("end(1400)", true, desk.end(1400));
        Due.is("end(1399)", true, desk.end(1399));
        refuses(desk, 1400);
    }

    private static void belowZero() {
        Desk desk = withTape("12345678");
        for (int n : new int[] {-1, -2, -8, -20, -1400, 8 - 256, 8 - 65536, Integer.MIN_VALUE}) {
            refuses(desk, n);
        }
        refuses(new Desk(), -1);
    }
}
