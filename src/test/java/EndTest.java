/** Promise 3. */
public final class EndTest {
    public static void main(String[] args) {
        FractionDesk desk = new FractionDesk();
        desk.feed(0x31323334, 0x35363738, 0, 0, 0);
        Due.is("end(-1)", false, desk.end(-1));
        Due.is("end of the least int", false, desk.end(Integer.MIN_VALUE));
        Due.is("end of the greatest int", false, desk.end(Integer.MAX_VALUE));
        Due.is("end(21)", false, desk.end(21));
        Due.is("end(20)", true, desk.end(20));
        Due.is("end(8)", true, desk.end(8));
        Due.is("end(9) after end(8)", false, desk.end(9));
        Due.is("end(-1) after end(8)", false, desk.end(-1));
        Due.is("end(8) again", true, desk.end(8));
        Due.is("end(5)", true, desk.end(5));
        Due.is("read", 0, desk.read(1));
        Due.holds("five bytes", "12345", desk, 1);
        Due.is("end(1) after read", false, desk.end(1));
        Due.is("end(0) after read", true, desk.end(0));
        desk.feed(0x31323334, 0, 0, 0, 0);
        Due.is("end(0)", true, desk.end(0));
        Due.is("read of nothing", FractionDesk.NONE, desk.read(1));
        Due.holds("the place after NONE", "12345", desk, 1);
        Due.finish();
    }
}
