/** Promise 1: a new object. */
public final class NewObjectTest {
    public static void main(String[] args) {
        Due.sentence("All places hold 0", NewObjectTest::placesHoldZero);
        Due.sentence("the text and the tape are empty: the text", NewObjectTest::textIsEmpty);
        Due.sentence("the text and the tape are empty: the tape", NewObjectTest::tapeIsEmpty);
        Due.sentence("A new object: also beside and behind a used one", NewObjectTest::objectsShareNothing);
        Due.sentence("NONE = -1", () -> Due.is("NONE", -1, FractionDesk.NONE));
        Due.finish();
    }

    private static void placesHoldZero() {
        Desk desk = new Desk();
        for (int place = 0; place < 16; place++) {
            Due.is("bits of place " + place, 0, desk.bits(place));
            Due.is("isInteger of place " + place, true, desk.isInteger(place));
            Due.is("place " + place + " compared", 0, desk.compare(place, 15 - place));
            Due.holds("place " + place, "0", desk, place);
        }
        Due.is("place -1", FractionDesk.NONE, desk.bits(-1));
        Due.is("place 16", FractionDesk.NONE, desk.bits(16));
    }

    private static void textIsEmpty() {
        Due.is("textAt(0)", Desk.NO_CHARACTER, new Desk().textAt(0));
        Due.is("textAt(-1)", Desk.NO_CHARACTER, new Desk().textAt(-1));
        Due.is("the text", "", new Desk().text());
    }

    private static void tapeIsEmpty() {
        Due.is("end(1)", false, new Desk().end(1));
        Due.is("end(0)", true, new Desk().end(0));
        Due.refuses("read", new Desk(), desk -> desk.read(0));
        Desk desk = new Desk();
        Due.is("feed", true, desk.feed(0x31323334, 0, 0, 0, 0));
        Due.is("end(21) after a feed", false, desk.end(21));
        Due.is("end(4) after a feed", true, desk.end(4));
        Due.is("read after a feed", 0, desk.read(0));
        Due.holds("what was fed first", "1234", desk, 0);
    }

    private static void objectsShareNothing() {
        FractionDesk before = new FractionDesk();
        FractionDesk used = new FractionDesk();
        used.set(5, 9);
        used.write(5, 10);
        used.feed(1, 2, 3, 4, 5);
        for (FractionDesk other : new FractionDesk[] {before, new FractionDesk()}) {
            Due.is("another tape", false, other.end(1));
            Due.is("another place", 0, other.bits(5));
            Due.is("another text", Desk.NO_CHARACTER, Desk.character(other, 0));
            other.set(5, -1);
            other.write(5, 2);
            other.feed(0, 0, 0, 0, 0);
            other.end(10);
        }
        Due.is("the used text", '9', Desk.character(used, 0));
        Due.is("the used text's end", Desk.NO_CHARACTER, Desk.character(used, 1));
        Due.is("the used tape", true, used.end(20));
        Due.is("the used place", 4, used.bits(5));
    }
}
