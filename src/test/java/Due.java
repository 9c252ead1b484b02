import java.util.NoSuchElementException;

/** What the tests share: asking for the answer that is due, and texts in and out of a desk. */
final class Due {
    private static int asked = 0;
    private static int wrong = 0;

    private Due() {
    }

    static void is(String what, long due, long got) {
        asked++;
        if (due != got) {
            wrong++;
            System.out.println(what + " answered " + got + ", due is " + due);
        }
    }

    static void is(String what, boolean due, boolean got) {
        is(what, due ? 1 : 0, got ? 1 : 0);
    }

    static void is(String what, String due, String got) {
        asked++;
        if (!due.equals(got)) {
            wrong++;
            System.out.println(what + " answered " + got + ", due is " + due);
        }
    }

    /** The place's number in radix 10, by write and textAt. */
    static void holds(String what, String due, FractionDesk desk, int place) {
        is(what, due, text(desk, place, 10));
    }

    static void noCharacter(FractionDesk desk, int i) {
        int thrown = 0;
        try {
            desk.textAt(i);
        } catch (NoSuchElementException e) {
            thrown = 1;
        }
        is("textAt(" + i + ") throws", 1, thrown);
    }

    static void finish() {
        System.out.println(asked + " answers, " + wrong + " of them wrong");
        if (wrong != 0 || asked == 0) {
            System.exit(1);
        }
    }

    static String text(FractionDesk desk, int place, int radix) {
        return shown(desk, desk.write(place, radix));
    }

    /** The first characters of the text as it stands. */
    static String shown(FractionDesk desk, int length) {
        StringBuilder text = new StringBuilder();
        for (int i = 0; i < length; i++) {
            text.append((char) desk.textAt(i));
        }
        return text.toString();
    }

    /** Puts the text behind what the tape has, which is `before` bytes long. */
    static void feed(FractionDesk desk, int before, String text) {
        for (int from = 0; from < text.length(); from += 20) {
            is("feed", true, desk.feed(four(text, from), four(text, from + 4),
                four(text, from + 8), four(text, from + 12), four(text, from + 16)));
        }
        is("end", true, desk.end(before + text.length()));
    }

    static int four(String text, int from) {
        int four = 0;
        for (int i = from; i < from + 4; i++) {
            four = four << 8 | (i < text.length() ? text.charAt(i) & 255 : 0);
        }
        return four;
    }

    static int read(FractionDesk desk, int place, String text) {
        feed(desk, 0, text);
        return desk.read(place);
    }

    static void put(FractionDesk desk, int place, String text) {
        is("read of " + text, 0, read(desk, place, text));
    }
}
