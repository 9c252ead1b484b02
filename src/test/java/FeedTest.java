/** Promise 2: feed. */
public final class FeedTest {
    private static final int ZEROS = 0x30303030;

    public static void main(String[] args) {
        Due.sentence("Appends twenty bytes to the tape", FeedTest::appendsTwenty);
        Due.sentence("Appends: behind the bytes that count", FeedTest::appendsBehind);
        Due.sentence("of each number the highest first", FeedTest::highestFirst);
        Due.sentence("bytes: also those of numbers below 0", FeedTest::bytesBelowZero);
        Due.sentence("1400 bytes are not more than 1400", FeedTest::becomesFull);
        Due.sentence("false, changing nothing, when it would have more than 1400: it is full", FeedTest::full);
        Due.sentence("false, changing nothing, when it would have more than 1400: by one byte", FeedTest::oneTooMany);
        Due.sentence("more than 1400: what was cut or read counts no more", FeedTest::roomComesBack);
        Due.sentence("feed changes nothing but the tape", FeedTest::onlyTheTape);
        Due.finish();
    }

    /** So many bytes 0, and at the end of each twenty a digit. */
    private static Desk withBytes(int count) {
        Desk desk = new Desk();
        for (int i = 0; i < count; i += 20) {
            Due.is("feed at " + i, true, desk.feed(ZEROS, ZEROS, ZEROS, ZEROS, ZEROS + i / 20 % 10));
        }
        Due.is("end(" + count + ")", true, desk.end(count));
        return desk;
    }

    private static void appendsTwenty() {
        Desk desk = new Desk();
        for (int feeds = 1; feeds <= 70; feeds++) {
            Due.is("feed " + feeds, true, desk.feed(1, 2, 3, 4, 5));
            Due.is("one more than fed", false, desk.end(20 * feeds + 1));
            Due.is("as many as fed", true, desk.end(20 * feeds));
        }
    }

    private static void appendsBehind() {
        Desk desk = new Desk();
        desk.append(0, "-12");
        desk.append(3, "3/4");
        Due.is("the length", 6, desk.tapeLength());
        Due.is("read", 0, desk.read(0));
        Due.holds("two rows fed", "-123/4", desk, 0);
        desk = new Desk();
        Due.is("feed", true, desk.feed(0x31323334, 0x35363738, 0x39303132, 0x33343536, 0x37383930));
        Due.is("feed", true, desk.feed(0x30393837, 0x36353433, 0x32313039, 0x38373635, 0x34333231));
        Due.is("read", 0, desk.read(0));
        Due.holds("forty bytes", "1234567890123456789009876543210987654321", desk, 0);
    }

    private static void highestFirst() {
        Desk desk = new Desk();
        Due.is("feed", true, desk.feed(0x31323334, 0x35363738, 0x39303132, 0x33343536, 0x37383930));
        Due.is("read", 0, desk.read(0));
        Due.holds("twenty bytes", "12345678901234567890", desk, 0);
        for (int n = 1; n < 20; n++) {
            desk = new Desk();
            desk.feed(0x31323334, 0x35363738, 0x39303132, 0x33343536, 0x37383930);
            Due.is("end(" + n + ")", true, desk.end(n));
            Due.is("read of " + n, 0, desk.read(0));
            Due.holds("the first " + n, "12345678901234567890".substring(0, n), desk, 0);
        }
    }

    /** Neither is a byte of 128 and more taken for another one, nor a byte 0 for an end. */
    private static void bytesBelowZero() {
        for (int high : new int[] {0xb1313131, 0x31b13131, 0x313131b1, 0xff313131, 0x80313131, 0xad313131,
            0xffffff31}) {
            Desk desk = new Desk();
            Due.is("feed", true, desk.feed(high, 0x31313131, 0x31313131, 0x31313131, 0x31313131));
            Due.is("the length", 20, desk.tapeLength());
            Due.is("read", FractionDesk.NONE, desk.read(0));
        }
        Desk desk = new Desk();
        Due.is("feed", true, desk.feed(0x31003100, 0, 0, 0, 0));
        Due.is("the length", 20, desk.tapeLength());
        Due.is("end", true, desk.end(3));
        Due.is("read over a byte 0", FractionDesk.NONE, desk.read(0));
    }

    private static void becomesFull() {
        Desk desk = withBytes(1380);
        Due.is("feed of 1380", true, desk.feed(ZEROS, ZEROS, ZEROS, ZEROS, ZEROS + 7));
        Due.is("the length", 1400, desk.tapeLength());
        Due.is("end(1401)", false, desk.end(1401));
        Due.is("end(1400)", true, desk.end(1400));
        Due.is("read", 0, desk.read(0, "-" + "0".repeat(1398) + "7"));
        Due.holds("1400 bytes", "-7", desk, 0);
    }

    private static void full() {
        Desk desk = withBytes(1400);
        Due.changesNothing("feed of 1400", 0, desk, full -> full.feed(1, 2, 3, 4, 5) ? 1 : 0);
        Due.changesNothing("feed again", 0, desk, full -> full.feed(-1, -1, -1, -1, -1) ? 1 : 0);
        Due.is("end(1401)", false, desk.end(1401));
        Due.is("end(20)", true, desk.end(20));
        Due.is("the first twenty", "0", desk.tapeNumber());
    }

    private static void oneTooMany() {
        for (int length : new int[] {1381, 1382, 1390, 1399}) {
            Desk desk = withBytes(length);
            Due.changesNothing("feed of " + length, 0, desk,
                almost -> almost.feed(0x39393939, 0x39393939, 0x39393939, 0x39393939, 0x39393939) ? 1 : 0);
            Due.is("one more than " + length, false, desk.end(length + 1));
        }
    }

    private static void roomComesBack() {
        Desk desk = withBytes(1400);
        Due.is("end(1381)", true, desk.end(1381));
        Due.is("feed of 1381", false, desk.feed(0, 0, 0, 0, 0));
        Due.is("end(1380)", true, desk.end(1380));
        Due.is("feed of 1380", true, desk.feed(0, 0, 0, 0, 0));
        Due.is("feed of 1400", false, desk.feed(0, 0, 0, 0, 0));
        Due.is("read", FractionDesk.NONE, desk.read(0));
        for (int i = 0; i < 70; i++) {
            Due.is("feed of the emptied tape", true, desk.feed(0, 0, 0, 0, 0));
        }
        Due.is("feed of the tape full again", false, desk.feed(0, 0, 0, 0, 0));
    }

    private static void onlyTheTape() {
        Desk desk = Desk.busy();
        Due.is("feed", true, desk.feed(0x35353535, 0, 0, 0, 0));
        Due.is("the length", Desk.BUSY_TAPE.length() + 20, desk.tapeLength());
        Due.is("end", true, desk.end(Desk.BUSY_TAPE.length()));
        desk.isBusyBut(-1);
    }
}
