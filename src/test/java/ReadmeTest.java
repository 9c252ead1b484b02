/** The example in README.md, and what its comments say that it does. */
public final class ReadmeTest {
    public static void main(String[] args) {
        Due.sentence("README.md's example", ReadmeTest::example);
        Due.finish();
    }

    private static void example() {
        Desk desk = new Desk();
        Due.is("feed", true, desk.feed(0x2d332f34, 0, 0, 0, 0));
        Due.is("the tape after feed", 20, desk.tapeLength());
        Due.is("end", true, desk.end(4));
        Due.is("the tape after end", 4, desk.tapeLength());
        Due.is("read", 0, desk.read(0));
        Due.holds("place 0", "-3/4", desk, 0);
        Due.is("the tape after read", 0, desk.tapeLength());
        Due.is("set", 0, desk.set(1, 2));
        Due.holds("place 1", "2", desk, 1);
        Due.is("reckon", 0, desk.reckon(2, 0, 1, 0));
        Due.holds("place 2", "5/4", desk, 2);
        Due.is("round", 0, desk.round(3, 2, 6));
        Due.holds("place 3", "1", desk, 3);
        Due.is("write", 3, desk.write(2, 10));
        Due.is("the text", "5/4", desk.text());
        Due.is("the first character", '5', desk.textAt(0));
    }
}
