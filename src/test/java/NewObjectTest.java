/** Promise 1. */
public final class NewObjectTest {
    public static void main(String[] args) {
        Due.is("NONE", -1, FractionDesk.NONE);
        FractionDesk desk = new FractionDesk();
        Due.noCharacter(desk, 0);
        Due.is("end(1) of an empty tape", false, desk.end(1));
        Due.is("end(0) of an empty tape", true, desk.end(0));
        Due.is("read of an empty tape", FractionDesk.NONE, desk.read(0));
        for (int place = 0; place < 16; place++) {
            Due.is("bits", 0, desk.bits(place));
            Due.is("isInteger", true, desk.isInteger(place));
            Due.is("compare", 0, desk.compare(place, 15 - place));
            Due.holds("a new place", "0", desk, place);
        }
        objectsShareNothing();
        Due.finish();
    }

    private static void objectsShareNothing() {
        FractionDesk used = new FractionDesk();
        FractionDesk other = new FractionDesk();
        Due.put(used, 3, "-22/7");
        used.write(3, 10);
        used.feed(1, 2, 3, 4, 5);
        Due.noCharacter(other, 0);
        Due.is("the other tape", false, other.end(1));
        Due.holds("the other place", "0", other, 3);
        FractionDesk later = new FractionDesk();
        Due.noCharacter(later, 0);
        Due.is("a later tape", false, later.end(1));
        Due.holds("a later place", "0", later, 3);
    }
}
