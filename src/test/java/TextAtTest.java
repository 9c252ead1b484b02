/** Promise 10: textAt. */
public final class TextAtTest {
    public static void main(String[] args) {
        Due.sentence("Character i of the text", TextAtTest::everyCharacter);
        Due.sentence("NoSuchElementException: there is none, the text is empty", TextAtTest::empty);
        Due.sentence("NoSuchElementException: there is none, i is too small", TextAtTest::tooSmall);
        Due.sentence("NoSuchElementException: there is none, i is too large", TextAtTest::tooLarge);
        Due.sentence("there is none: behind the longest text", TextAtTest::longest);
        Due.sentence("there is none: where a longer text had one", TextAtTest::afterLonger);
        Due.sentence("textAt changes nothing", TextAtTest::changesNothing);
        Due.finish();
    }

    private static void none(Desk desk, int i) {
        Due.changesNothing("textAt(" + i + ")", Desk.NO_CHARACTER, desk, asked -> asked.textAt(i));
    }

    private static void everyCharacter() {
        Desk desk = Desk.busy();
        String text = Desk.BUSY_TEXT;
        for (int i = 0; i < text.length(); i++) {
            Due.is("textAt(" + i + ")", text.charAt(i), desk.textAt(i));
        }
        Due.is("the last again", '1', desk.textAt(6));
        Due.is("the first again", '-', desk.textAt(0));
    }

    private static void empty() {
        for (int i : new int[] {0, 1, -1, 4097, Integer.MIN_VALUE, Integer.MAX_VALUE}) {
            none(new Desk(), i);
        }
    }

    private static void tooSmall() {
        Desk desk = Desk.busy();
        for (int i : new int[] {-1, -2, -7, -256, -65536, Integer.MIN_VALUE, Integer.MIN_VALUE + 1}) {
            none(desk, i);
        }
    }

    private static void tooLarge() {
        Desk desk = Desk.busy();
        for (int i : new int[] {7, 8, 256, 4097, 4098, 4099, 65536, 1 << 30, Integer.MAX_VALUE}) {
            none(desk, i);
        }
    }

    private static void longest() {
        Desk desk = new Desk();
        desk.put(0, "-" + Desk.GREATEST + "/" + Desk.HALF);
        Due.is("write", 4098, desk.write(0, 2));
        Due.is("the first", '-', desk.textAt(0));
        Due.is("the last of N", '1', desk.textAt(2048));
        Due.is("the stroke", '/', desk.textAt(2049));
        Due.is("the first of D", '1', desk.textAt(2050));
        Due.is("the last", '0', desk.textAt(4097));
        Due.is("behind the last", Desk.NO_CHARACTER, desk.textAt(4098));
        Due.is("before the first", Desk.NO_CHARACTER, desk.textAt(-1));
    }

    private static void afterLonger() {
        Desk desk = Desk.busy();
        Due.is("a shorter text", 1, desk.write(0, 10));
        Due.is("textAt(0)", '1', desk.textAt(0));
        for (int i = 1; i < 8; i++) {
            none(desk, i);
        }
    }

    private static void changesNothing() {
        Due.changesNothing("textAt(0)", '-', Desk.busy(), desk -> desk.textAt(0));
        Due.changesNothing("textAt(6)", '1', Desk.busy(), desk -> desk.textAt(6));
    }
}
