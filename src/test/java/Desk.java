import java.math.BigInteger;
import java.util.ArrayList;
import java.util.List;
import java.util.NoSuchElementException;
import java.util.function.ToLongFunction;

/**
 * A FractionDesk that remembers its calls. A copy is made by calling them all again: so a look at
 * places, text or tape leaves what is looked at as it is, and no object gets more calls than the
 * document promises to answer.
 */
final class Desk {
    static final int MOST_CALLS = 512;
    static final int MOST_TAPE = 1400;
    /** More than any text has, so that a look ends whatever is wrong. */
    static final int MOST_TEXT = 5000;
    /** What textAt answers here when it throws NoSuchElementException; nothing else is that. */
    static final int NO_CHARACTER = Integer.MIN_VALUE;
    /** Just outside, what a byte, a short or a doubling wraps to a place, and the farthest. */
    static final int[] NO_PLACES = {-1, 16, 17, -16, 256, 65536, 1 << 28, Integer.MIN_VALUE, Integer.MAX_VALUE};

    static final BigInteger LIMIT = BigInteger.ONE.shiftLeft(2048);
    static final String BEYOND = LIMIT.toString();
    static final String GREATEST = LIMIT.subtract(BigInteger.ONE).toString();
    static final String HALF = LIMIT.shiftRight(1).toString();

    static final String BUSY_TEXT = "-211/21";
    static final String BUSY_TAPE = "-98/76";
    private static final String[] BUSY_NUMBERS = {"1", "-1", "0", "2", "1/2", "-7/3", GREATEST, "-1/" + GREATEST,
        "3", "-4", "5/6", "77", "-22/7", "2147483648", "-9223372036854775808", "100"};

    private final FractionDesk desk = new FractionDesk();
    private final List<ToLongFunction<FractionDesk>> calls = new ArrayList<>();

    /** Every place holds another number, and there are a text and a tape. */
    static Desk busy() {
        Desk desk = new Desk();
        for (int place = 0; place < BUSY_NUMBERS.length; place++) {
            desk.put(place, BUSY_NUMBERS[place]);
        }
        desk.write(12, 3);
        desk.append(0, BUSY_TAPE);
        return desk;
    }

    /** Of a busy desk only this place may have changed. */
    void isBusyBut(int place) {
        for (int other = 0; other < BUSY_NUMBERS.length; other++) {
            if (other != place) {
                Due.holds("place " + other, BUSY_NUMBERS[other], this, other);
            }
        }
        Due.is("the text", BUSY_TEXT, text());
        Due.is("the tape's length", BUSY_TAPE.length(), tapeLength());
        Due.is("the tape", "-1d/12", tapeNumber());
    }

    private long call(ToLongFunction<FractionDesk> call) {
        if (callsLeft() <= 0) {
            throw new IllegalStateException("the test goes beyond the last call that is promised");
        }
        calls.add(call);
        return call.applyAsLong(desk);
    }

    int callsLeft() {
        return MOST_CALLS - calls.size();
    }

    Desk copy() {
        Desk copy = new Desk();
        for (ToLongFunction<FractionDesk> call : calls) {
            copy.call(call);
        }
        return copy;
    }

    boolean feed(int a, int b, int c, int d, int e) {
        return call(desk -> desk.feed(a, b, c, d, e) ? 1 : 0) == 1;
    }

    boolean end(int n) {
        return call(desk -> desk.end(n) ? 1 : 0) == 1;
    }

    int read(int place) {
        return (int) call(desk -> desk.read(place));
    }

    int set(int place, long value) {
        return (int) call(desk -> desk.set(place, value));
    }

    int reckon(int place, int a, int b, int operation) {
        return (int) call(desk -> desk.reckon(place, a, b, operation));
    }

    int round(int place, int a, int operation) {
        return (int) call(desk -> desk.round(place, a, operation));
    }

    int compare(int a, int b) {
        return (int) call(desk -> desk.compare(a, b));
    }

    int write(int place, int radix) {
        return (int) call(desk -> desk.write(place, radix));
    }

    int textAt(int i) {
        return (int) call(desk -> character(desk, i));
    }

    static int character(FractionDesk desk, int i) {
        try {
            return desk.textAt(i);
        } catch (NoSuchElementException e) {
            return NO_CHARACTER;
        }
    }

    int bits(int place) {
        return (int) call(desk -> desk.bits(place));
    }

    boolean isInteger(int place) {
        return call(desk -> desk.isInteger(place) ? 1 : 0) == 1;
    }

    /** Puts the text behind what the tape has, which is `before` bytes long. */
    void append(int before, String text) {
        for (int from = 0; from < text.length(); from += 20) {
            Due.is("feed", true, feed(four(text, from), four(text, from + 4),
                four(text, from + 8), four(text, from + 12), four(text, from + 16)));
        }
        Due.is("end", true, end(before + text.length()));
    }

    /** The highest byte first; 0 where the text has ended. */
    static int four(String text, int from) {
        int four = 0;
        for (int i = from; i < from + 4; i++) {
            four = four << 8 | (i < text.length() ? text.charAt(i) & 255 : 0);
        }
        return four;
    }

    /** The tape becomes the text and is read. */
    int read(int place, String text) {
        Due.is("end(0)", true, end(0));
        append(0, text);
        return read(place);
    }

    void put(int place, String number) {
        Due.is("read of " + number, 0, read(place, number));
    }

    /** The whole text, up to the first character that is none. */
    String text() {
        StringBuilder text = new StringBuilder();
        Desk copy = copy();
        int character = copy.textAt(0);
        while (character != NO_CHARACTER && text.length() < MOST_TEXT) {
            text.append((char) character);
            copy = copy.callsLeft() > 0 ? copy : copy();
            character = copy.textAt(text.length());
        }
        return text.toString();
    }

    String number(int place, int radix) {
        Desk copy = copy();
        int length = copy.write(place, radix);
        String text = copy.text();
        Due.is("the length of " + text, text.length(), length);
        return text;
    }

    String number(int place) {
        return number(place, 10);
    }

    /** Each question goes to a copy of its own, since an end that is taken shortens the tape. */
    int tapeLength() {
        int least = 0;
        int most = MOST_TAPE;
        while (least < most) {
            int n = (least + most + 1) / 2;
            if (copy().end(n)) {
                least = n;
            } else {
                most = n - 1;
            }
        }
        return least;
    }

    /** What the tape would be read as. */
    String tapeNumber() {
        Desk copy = copy();
        return copy.read(0) == 0 ? copy.number(0, 36) : "none";
    }

    /** All that can be seen of the desk. */
    String state() {
        StringBuilder state = new StringBuilder();
        for (int place = 0; place < 16; place++) {
            state.append(number(place, 36)).append(' ');
        }
        state.append("text ").append(text());
        state.append(" tape ").append(tapeLength()).append(' ').append(tapeNumber());
        return state.toString();
    }
}
