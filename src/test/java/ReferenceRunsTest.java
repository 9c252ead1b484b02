import java.math.BigInteger;
import java.util.Random;

/**
 * All promises at once: runs of 512 calls, made from fixed seeds, each answer asked of a plain
 * reckoner over BigInteger too. Anything that a call throws and is not due ends the test.
 */
public final class ReferenceRunsTest {
    /** What a step, and the look at all places at the end, may need. */
    private static final int MOST_CALLS_OF_A_STEP = 80;
    private static final int MOST_CALLS_OF_A_LOOK = 8;
    private static final BigInteger LIMIT = Desk.LIMIT;

    private final Random random;
    private final String run;
    /** With few places the calls meet each other's numbers more often. */
    private final int usedPlaces;
    private final Desk desk = new Desk();
    private final BigInteger[] n = new BigInteger[16];
    private final BigInteger[] d = new BigInteger[16];
    private String tape = "";
    private String text = "";
    private BigInteger madeN;
    private BigInteger madeD;

    private ReferenceRunsTest(int seed) {
        random = new Random(seed);
        run = "run " + seed + ": ";
        usedPlaces = seed % 4 == 0 ? 16 : 4;
        for (int i = 0; i < 16; i++) {
            n[i] = BigInteger.ZERO;
            d[i] = BigInteger.ONE;
        }
    }

    public static void main(String[] args) {
        int runs = args.length > 0 ? Integer.parseInt(args[0]) : 4000;
        for (int seed = 0; seed < runs; seed++) {
            new ReferenceRunsTest(seed).steps();
        }
        Due.finish();
    }

    private void steps() {
        while (desk.callsLeft() >= MOST_CALLS_OF_A_STEP + 16 * MOST_CALLS_OF_A_LOOK) {
            step();
        }
        for (int place = 0; place < 16; place++) {
            look(place, 2 + random.nextInt(35));
        }
    }

    private void step() {
        switch (random.nextInt(20)) {
            case 0: feed(); break;
            case 1: end(); break;
            case 2: read(); break;
            case 3: wholeText(); break;
            case 4: set(); break;
            case 5: round(); break;
            case 6: compare(); break;
            case 7: write(); break;
            case 8: textAt(); break;
            case 9: bits(); break;
            case 10: isInteger(); break;
            case 11: case 12: case 13: shortText(); break;
            case 14: round(); break;
            default: reckon(); break;
        }
    }

    private int place() {
        int kind = random.nextInt(40);
        if (kind == 0) {
            return random.nextInt();
        }
        return kind == 1 ? -1 : kind == 2 ? 16 : random.nextInt(usedPlaces);
    }

    private static boolean isPlace(int place) {
        return place >= 0 && place < 16;
    }

    private BigInteger small() {
        return BigInteger.valueOf(random.nextInt(20));
    }

    private BigInteger natural() {
        switch (random.nextInt(8)) {
            case 0: return small();
            case 1: return new BigInteger(random.nextInt(100), random);
            case 2: return new BigInteger(2048, random);
            case 3: return BigInteger.ONE.shiftLeft(random.nextInt(2049));
            case 4: return BigInteger.ONE.shiftLeft(random.nextInt(2049)).subtract(BigInteger.ONE);
            case 5: return new BigInteger(random.nextInt(2050), random);
            default: return edgeLimbs();
        }
    }

    /** Limbs at the edges of 31 bits: what a division's guess fails on is hardly ever random. */
    private BigInteger edgeLimbs() {
        long[] edges = {0, 0, 1, (1L << 30) - 1, 1L << 30, (1L << 31) - 2, (1L << 31) - 1, (1L << 31) - 1};
        BigInteger number = BigInteger.ZERO;
        for (int i = random.nextInt(66); i >= 0; i--) {
            number = number.shiftLeft(31).add(BigInteger.valueOf(edges[random.nextInt(edges.length)]));
        }
        return number;
    }

    private String fractionText() {
        String row = (random.nextBoolean() ? "-" : "") + "0".repeat(random.nextInt(3)) + natural();
        if (random.nextInt(3) > 0) {
            row = row + "/" + (random.nextInt(4) == 0 ? small() : natural());
        }
        if (random.nextInt(10) == 0) {
            int at = random.nextInt(row.length());
            row = row.substring(0, at) + "-/.0 :".charAt(random.nextInt(6)) + row.substring(at + 1);
        }
        return row;
    }

    private void feedText(String added) {
        for (int from = 0; from < added.length(); from += 20) {
            int[] fours = new int[5];
            StringBuilder bytes = new StringBuilder();
            for (int i = 0; i < 5; i++) {
                fours[i] = Desk.four(added, from + 4 * i);
                for (int moved = 24; moved >= 0; moved -= 8) {
                    bytes.append((char) (fours[i] >> moved & 255));
                }
            }
            boolean due = tape.length() + 20 <= 1400;
            Due.is(run + "feed", due, desk.feed(fours[0], fours[1], fours[2], fours[3], fours[4]));
            tape = due ? tape + bytes : tape;
        }
    }

    private void endAt(int count) {
        boolean due = count >= 0 && count <= tape.length();
        Due.is(run + "end", due, desk.end(count));
        tape = due ? tape.substring(0, count) : tape;
    }

    private void feed() {
        String added = fractionText();
        feedText(added.substring(0, Math.min(added.length(), 20 * random.nextInt(4) + 1)));
    }

    private void end() {
        endAt(random.nextInt(8) == 0 ? random.nextInt() : random.nextInt(tape.length() + 3) - 1);
    }

    private void wholeText() {
        readText(fractionText());
    }

    /** Small fractions cost few calls, and are what a half, or a sum that shrinks, needs. */
    private void shortText() {
        readText((random.nextBoolean() ? "-" : "") + small() + "/" + small());
    }

    private void readText(String added) {
        int before = random.nextInt(4) == 0 ? tape.length() : 0;
        endAt(before);
        feedText(added);
        endAt(before + added.length());
        read();
    }

    private void read() {
        int place = place();
        int due = FractionDesk.NONE;
        if (tape.matches("-?[0-9]+(/[0-9]+)?")) {
            String[] rows = tape.split("/");
            BigInteger top = new BigInteger(rows[0]);
            BigInteger bottom = rows.length > 1 ? new BigInteger(rows[1]) : BigInteger.ONE;
            if (top.abs().compareTo(LIMIT) < 0 && bottom.compareTo(LIMIT) < 0
                && bottom.signum() > 0 && isPlace(place)) {
                due = 0;
                make(top, bottom);
                keep(place);
            }
        }
        tape = "";
        Due.is(run + "read", due, desk.read(place));
    }

    private void make(BigInteger top, BigInteger bottom) {
        BigInteger divisor = top.gcd(bottom);
        if (bottom.signum() < 0) {
            divisor = divisor.negate();
        }
        madeN = top.divide(divisor);
        madeD = bottom.divide(divisor);
    }

    private void makeWhole(BigInteger whole) {
        make(whole, BigInteger.ONE);
    }

    private int keep(int place) {
        if (madeN.bitLength() > 2048 && madeN.abs().compareTo(LIMIT) >= 0 || madeD.compareTo(LIMIT) >= 0) {
            return -3;
        }
        n[place] = madeN;
        d[place] = madeD;
        return 0;
    }

    private void set() {
        int place = place();
        long value = random.nextInt(3) == 0 ? random.nextLong() : random.nextInt(41) - 20;
        if (isPlace(place)) {
            n[place] = BigInteger.valueOf(value);
            d[place] = BigInteger.ONE;
        }
        Due.is(run + "set", isPlace(place) ? 0 : FractionDesk.NONE, desk.set(place, value));
    }

    private static BigInteger floor(BigInteger top, BigInteger bottom) {
        BigInteger[] parts = top.divideAndRemainder(bottom);
        return parts[1].signum() * bottom.signum() < 0 ? parts[0].subtract(BigInteger.ONE) : parts[0];
    }

    private void reckon() {
        int place = place();
        int a = place();
        int b = place();
        int operation = random.nextInt(30) == 0 ? random.nextInt() : random.nextInt(12) - 1;
        int due = FractionDesk.NONE;
        if (isPlace(place) && isPlace(a) && isPlace(b)) {
            due = reckoned(a, b, operation);
            due = due == 0 ? keep(place) : due;
        }
        Due.is(run + "reckon operation " + operation, due, desk.reckon(place, a, b, operation));
        if (due == 0) {
            Due.is(run + "bits", n[place].abs().bitLength(), desk.bits(place));
        }
    }

    private int reckoned(int a, int b, int operation) {
        boolean whole = d[a].equals(BigInteger.ONE) && d[b].equals(BigInteger.ONE);
        boolean dividing = operation == 3 || operation == 4 || operation == 5;
        if (operation >= 4 && operation <= 6 && !whole) {
            return FractionDesk.NONE;
        }
        if (dividing && n[b].signum() == 0) {
            return -2;
        }
        switch (operation) {
            case 0: make(n[a].multiply(d[b]).add(n[b].multiply(d[a])), d[a].multiply(d[b])); return 0;
            case 1: make(n[a].multiply(d[b]).subtract(n[b].multiply(d[a])), d[a].multiply(d[b])); return 0;
            case 2: make(n[a].multiply(n[b]), d[a].multiply(d[b])); return 0;
            case 3: make(n[a].multiply(d[b]), d[a].multiply(n[b])); return 0;
            case 4: makeWhole(floor(n[a], n[b])); return 0;
            case 5: makeWhole(n[a].subtract(n[b].multiply(floor(n[a], n[b])))); return 0;
            case 6: makeWhole(n[a].gcd(n[b])); return 0;
            case 7: return raised(a, b);
            case 8: choose(order(a, b) <= 0 ? a : b); return 0;
            case 9: choose(order(a, b) >= 0 ? a : b); return 0;
            default: return FractionDesk.NONE;
        }
    }

    private int raised(int a, int b) {
        if (!d[b].equals(BigInteger.ONE) || n[b].signum() < 0 || n[b].compareTo(BigInteger.valueOf(10000)) > 0) {
            return FractionDesk.NONE;
        }
        int exponent = n[b].intValue();
        long bits = Math.max(n[a].abs().bitLength(), d[a].bitLength());
        if ((bits - 1) * exponent >= 2048) {
            return -3;
        }
        make(n[a].pow(exponent), d[a].pow(exponent));
        return 0;
    }

    private void choose(int place) {
        madeN = n[place];
        madeD = d[place];
    }

    private int order(int a, int b) {
        return n[a].multiply(d[b]).compareTo(n[b].multiply(d[a]));
    }

    private void round() {
        int place = place();
        int a = place();
        int operation = random.nextInt(30) == 0 ? random.nextInt() : random.nextInt(10) - 1;
        int due = FractionDesk.NONE;
        if (isPlace(place) && isPlace(a) && operation >= 0 && operation < 8) {
            makeRound(n[a], d[a], operation);
            due = keep(place);
        }
        Due.is(run + "round operation " + operation, due, desk.round(place, a, operation));
        if (due == 0) {
            look(place, 2 + random.nextInt(35));
        }
    }

    private void makeRound(BigInteger top, BigInteger bottom, int operation) {
        BigInteger below = floor(top, bottom);
        BigInteger above = floor(top.negate(), bottom).negate();
        switch (operation) {
            case 0: makeWhole(top); break;
            case 1: makeWhole(bottom); break;
            case 2: make(top.abs(), bottom); break;
            case 3: makeWhole(below); break;
            case 4: makeWhole(above); break;
            case 5: makeWhole(top.divide(bottom)); break;
            case 6:
                int half = top.shiftLeft(1).compareTo(below.add(above).multiply(bottom));
                makeWhole(half < 0 || half == 0 && !below.testBit(0) ? below : above);
                break;
            default: make(top.negate(), bottom); break;
        }
    }

    private void compare() {
        int a = place();
        int b = random.nextInt(10) == 0 ? a : place();
        Due.is(run + "compare", isPlace(a) && isPlace(b) ? order(a, b) : -2, desk.compare(a, b));
    }

    private String textOf(int place, int radix) {
        String row = n[place].toString(radix);
        return d[place].equals(BigInteger.ONE) ? row : row + "/" + d[place].toString(radix);
    }

    private void write() {
        int place = place();
        int radix = random.nextInt(20) == 0 ? random.nextInt() : random.nextInt(37) + 1;
        if (isPlace(place) && radix >= 2 && radix <= 36) {
            look(place, radix);
        } else {
            Due.is(run + "write", FractionDesk.NONE, desk.write(place, radix));
            character(text.length() - 1);
        }
    }

    /** What is wrong low in a row shows in its last character, what is wrong high in its length. */
    private void look(int place, int radix) {
        text = textOf(place, radix);
        Due.is(run + "write of place " + place + " in radix " + radix, text.length(), desk.write(place, radix));
        int stroke = text.indexOf('/');
        character(0);
        character(stroke < 0 ? text.length() / 2 : stroke - 1);
        character(stroke < 0 ? text.length() / 3 : stroke);
        character(text.length() - 1);
        character(text.length());
        character(random.nextInt(text.length()));
    }

    private void character(int i) {
        int due = i >= 0 && i < text.length() ? text.charAt(i) : Desk.NO_CHARACTER;
        Due.is(run + "textAt(" + i + ")", due, desk.textAt(i));
    }

    private void textAt() {
        character(random.nextInt(5) == 0 ? random.nextInt() : random.nextInt(text.length() + 3) - 1);
    }

    private void bits() {
        int place = place();
        Due.is(run + "bits", isPlace(place) ? n[place].abs().bitLength() : FractionDesk.NONE, desk.bits(place));
    }

    private void isInteger() {
        int place = place();
        Due.is(run + "isInteger", isPlace(place) && d[place].equals(BigInteger.ONE), desk.isInteger(place));
    }
}
