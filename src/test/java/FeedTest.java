/** Promise 2. */
public final class FeedTest {
    public static void main(String[] args) {
        bytesComeInOrder();
        atMost1400();
        onlyRoomCounts();
        appendsBehindTheEnd();
        highBytesAreBytes();
        Due.finish();
    }

    private static void bytesComeInOrder() {
        FractionDesk desk = new FractionDesk();
        Due.is("feed", true, desk.feed(0x31323334, 0x35363738, 0x39303132, 0x33343536, 0x37383930));
        Due.is("the tape has twenty bytes", false, desk.end(21));
        Due.is("read", 0, desk.read(0));
        Due.holds("twenty bytes", "12345678901234567890", desk, 0);
    }

    private static void atMost1400() {
        FractionDesk desk = new FractionDesk();
        int zeros = 0x30303030;
        for (int i = 0; i < 69; i++) {
            Due.is("feed " + i, true, desk.feed(zeros, zeros, zeros, zeros, zeros));
        }
        Due.is("feed 69", true, desk.feed(zeros, zeros, zeros, zeros, 0x30303037));
        Due.is("feed 70", false, desk.feed(0, 0, 0, 0, 0));
        Due.is("end(1401)", false, desk.end(1401));
        Due.is("end(1400)", true, desk.end(1400));
        Due.is("read", 0, desk.read(0));
        Due.holds("1399 0s and a 7", "7", desk, 0);
        Due.is("feed of the emptied tape", true, desk.feed(0, 0, 0, 0, 0));
    }

    private static void onlyRoomCounts() {
        FractionDesk desk = new FractionDesk();
        for (int i = 0; i < 70; i++) {
            desk.feed(0x31313131, 0, 0, 0, 0);
        }
        Due.is("end(1381)", true, desk.end(1381));
        Due.is("feed of 1381", false, desk.feed(0, 0, 0, 0, 0));
        Due.is("end(1382)", false, desk.end(1382));
        Due.is("end(1380)", true, desk.end(1380));
        Due.is("feed of 1380", true, desk.feed(0, 0, 0, 0, 0));
        Due.is("end(1400)", true, desk.end(1400));
        Due.is("feed of 1400", false, desk.feed(0, 0, 0, 0, 0));
        Due.is("end(4)", true, desk.end(4));
        Due.is("read", 0, desk.read(0));
        Due.holds("refused feeds", "1111", desk, 0);
    }

    private static void appendsBehindTheEnd() {
        FractionDesk desk = new FractionDesk();
        Due.feed(desk, 0, "-12");
        Due.feed(desk, 3, "3/4");
        Due.is("read", 0, desk.read(0));
        Due.holds("two rows fed", "-123/4", desk, 0);
    }

    private static void highBytesAreBytes() {
        FractionDesk desk = new FractionDesk();
        for (int high : new int[] {0xb1000000, 0xff000000, 0x80000000}) {
            Due.is("feed", true, desk.feed(high, 0, 0, 0, 0));
            Due.is("end", true, desk.end(1));
            Due.is("read", FractionDesk.NONE, desk.read(0));
        }
        Due.is("a byte 0 is no end", true, desk.feed(0x31000000, 0, 0, 0, 0));
        Due.is("end", true, desk.end(2));
        Due.is("read", FractionDesk.NONE, desk.read(0));
    }
}
