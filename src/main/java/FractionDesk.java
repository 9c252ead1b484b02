import java.util.NoSuchElementException;

/**
 * Sixteen places that hold exact fractions in least terms, with a tape to read them from
 * and a text to write them to. Every row is made with the object and used again by each
 * call, so that no call makes an object, but for the exception of {@link #textAt}.
 */
public final class FractionDesk {
    public static final int NONE = -1;

    private static final int DONE = 0;
    private static final int DIVIDED_BY_ZERO = -2;
    private static final int TOO_GREAT = -3;
    private static final int NO_ORDER = -2;

    private static final int PLACES = 16;
    private static final int MOST_BITS = 2048;
    private static final int MOST_TAPE = 1400;
    private static final int BYTES_OF_A_FEED = 20;
    /** In radix 2 a sign, a stroke and two rows of MOST_BITS digits. */
    private static final int MOST_TEXT = 2 * MOST_BITS + 2;
    private static final int LEAST_RADIX = 2;
    private static final int GREATEST_RADIX = 36;
    private static final String DIGITS = "0123456789abcdefghijklmnopqrstuvwxyz";

    /** With 31 bits the product of two limbs, and two limbs joined, are longs not below 0. */
    private static final int LIMB_BITS = 31;
    private static final int LIMB_MASK = 0x7fffffff;
    private static final int LIMBS = MOST_BITS / LIMB_BITS + 1;
    /** The sum of two products of numbers below the limit, moved up by less than a limb. */
    private static final int WIDE_LIMBS = 2 * LIMBS + 2;

    private static final int SUM = 0;
    private static final int DIFFERENCE = 1;
    private static final int PRODUCT = 2;
    private static final int QUOTIENT = 3;
    private static final int WHOLE_QUOTIENT = 4;
    private static final int REST = 5;
    private static final int COMMON_DIVISOR = 6;
    private static final int POWER = 7;
    private static final int LESS = 8;
    private static final int GREATER = 9;
    private static final int GREATEST_EXPONENT = 10000;
    private static final int EXPONENT_BITS = 14;

    private static final int NUMERATOR = 0;
    private static final int DENOMINATOR = 1;
    private static final int SIZE = 2;
    private static final int DOWNWARDS = 3;
    private static final int UPWARDS = 4;
    private static final int TOWARDS_ZERO = 5;
    private static final int NEAREST = 6;
    private static final int OTHER_SIGN = 7;

    private final Fraction[] places = new Fraction[PLACES];
    private final Reckoner reckoner = new Reckoner();
    private final Tape tape = new Tape();
    private final Text text = new Text();

    public FractionDesk() {
        for (int i = 0; i < PLACES; i++) {
            places[i] = new Fraction(LIMBS);
        }
    }

    public boolean feed(int a, int b, int c, int d, int e) {
        if (tape.length > MOST_TAPE - BYTES_OF_A_FEED) {
            return false;
        }
        tape.append(a);
        tape.append(b);
        tape.append(c);
        tape.append(d);
        tape.append(e);
        return true;
    }

    public boolean end(int n) {
        if (n < 0 || n > tape.length) {
            return false;
        }
        tape.length = n;
        return true;
    }

    public int read(int place) {
        boolean understood = tape.takeFraction(reckoner.result);
        tape.length = 0;
        if (!understood || !isPlace(place)) {
            return NONE;
        }
        reckoner.reduce();
        places[place].become(reckoner.result);
        return DONE;
    }

    public int set(int place, long value) {
        if (!isPlace(place)) {
            return NONE;
        }
        places[place].becomeWhole(value);
        return DONE;
    }

    public int reckon(int place, int a, int b, int operation) {
        if (!isPlace(place) || !isPlace(a) || !isPlace(b)) {
            return NONE;
        }
        return keep(place, reckoner.combine(places[a], places[b], operation));
    }

    public int round(int place, int a, int operation) {
        if (!isPlace(place) || !isPlace(a)) {
            return NONE;
        }
        return keep(place, reckoner.change(places[a], operation));
    }

    public int compare(int a, int b) {
        if (!isPlace(a) || !isPlace(b)) {
            return NO_ORDER;
        }
        return reckoner.order(places[a], places[b]);
    }

    public int write(int place, int radix) {
        if (!isPlace(place) || radix < LEAST_RADIX || radix > GREATEST_RADIX) {
            return NONE;
        }
        text.become(places[place], radix);
        return text.length;
    }

    public int textAt(int i) throws NoSuchElementException {
        if (i < 0 || i >= text.length) {
            throw new NoSuchElementException("the text has no such character");
        }
        return text.characters[i];
    }

    public int bits(int place) {
        return isPlace(place) ? places[place].n.bitLength() : NONE;
    }

    public boolean isInteger(int place) {
        return isPlace(place) && places[place].isWhole();
    }

    private static boolean isPlace(int place) {
        return place >= 0 && place < PLACES;
    }

    /** The place changes only now, so it may be one of those that were reckoned with. */
    private int keep(int place, int answer) {
        if (answer == DONE) {
            places[place].become(reckoner.result);
        }
        return answer;
    }

    /**
     * A whole number not below 0: limbs, the lowest first, the highest of the counted ones
     * not 0. Limbs beyond the size hold remains and are not to be used. Who makes one gives
     * it the room for all that it will ever become: LIMBS for a number below the limit,
     * WIDE_LIMBS for anything on the way to one.
     */
    private static final class Natural {
        final int[] limbs;
        int size;

        Natural(int room) {
            limbs = new int[Math.max(room, LIMBS)];
        }

        boolean isZero() {
            return size == 0;
        }

        boolean isOne() {
            return size == 1 && limbs[0] == 1;
        }

        boolean isOdd() {
            return (limbAt(0) & 1) == 1;
        }

        int limbAt(int i) {
            return i >= 0 && i < size ? limbs[i] : 0;
        }

        /** Of a number below two limbs. */
        long toLong() {
            return (long) limbAt(1) << LIMB_BITS | limbAt(0);
        }

        int bitLength() {
            if (size == 0) {
                return 0;
            }
            int top = limbs[size - 1];
            int topBits = LIMB_BITS;
            while (topBits > 0 && top >>> (topBits - 1) == 0) {
                topBits--;
            }
            return (size - 1) * LIMB_BITS + topBits;
        }

        boolean fits() {
            return bitLength() <= MOST_BITS;
        }

        int order(Natural other) {
            if (size != other.size) {
                return size < other.size ? -1 : 1;
            }
            for (int i = size - 1; i >= 0; i--) {
                if (limbs[i] != other.limbs[i]) {
                    return limbs[i] < other.limbs[i] ? -1 : 1;
                }
            }
            return 0;
        }

        void become(Natural other) {
            System.arraycopy(other.limbs, 0, limbs, 0, other.size);
            size = other.size;
        }

        /** All 64 bits count, so that the size of the least long is right too. */
        void becomeUnsigned(long value) {
            limbs[0] = (int) (value & LIMB_MASK);
            limbs[1] = (int) (value >>> LIMB_BITS & LIMB_MASK);
            limbs[2] = (int) (value >>> 2 * LIMB_BITS);
            trim(3);
        }

        void trim(int counted) {
            size = counted;
            while (size > 0 && limbs[size - 1] == 0) {
                size--;
            }
        }

        void becomeSum(Natural a, Natural b) {
            int longer = Math.max(a.size, b.size);
            int carry = 0;
            for (int i = 0; i < longer; i++) {
                int sum = a.limbAt(i) + b.limbAt(i) + carry;
                limbs[i] = sum & LIMB_MASK;
                carry = sum >>> LIMB_BITS;
            }
            limbs[longer] = carry;
            trim(longer + 1);
        }

        /** a is not below b. */
        void becomeDifference(Natural a, Natural b) {
            int borrow = 0;
            for (int i = 0; i < a.size; i++) {
                int difference = a.limbs[i] - b.limbAt(i) - borrow;
                limbs[i] = difference & LIMB_MASK;
                borrow = difference >>> LIMB_BITS;
            }
            trim(a.size);
        }

        /** This is neither a nor b: its limbs change while theirs are still needed. */
        void becomeProduct(Natural a, Natural b) {
            for (int j = 0; j < b.size; j++) {
                limbs[j] = 0;
            }
            for (int i = 0; i < a.size; i++) {
                limbs[i + b.size] = addMultiple(b, a.limbs[i], i);
            }
            trim(a.size + b.size);
        }

        private int addMultiple(Natural other, long factor, int from) {
            int count = other.size;
            long carry = 0;
            for (int i = 0; i < count; i++) {
                carry += factor * other.limbs[i] + limbs[from + i];
                limbs[from + i] = (int) (carry & LIMB_MASK);
                carry >>>= LIMB_BITS;
            }
            return (int) carry;
        }

        void multiplyAndAdd(int factor, int addend) {
            long carry = addend;
            for (int i = 0; i < size; i++) {
                carry += (long) factor * limbs[i];
                limbs[i] = (int) (carry & LIMB_MASK);
                carry >>>= LIMB_BITS;
            }
            limbs[size] = (int) carry;
            trim(size + 1);
        }

        /** Answers the rest; a divisor that is none changes nothing. */
        int divideBy(int divisor) {
            if (divisor <= 0) {
                return 0;
            }
            long rest = 0;
            for (int i = size - 1; i >= 0; i--) {
                long dividend = rest << LIMB_BITS | limbs[i];
                long quotient = dividend / divisor;
                limbs[i] = (int) quotient;
                rest = dividend - quotient * divisor;
            }
            trim(size);
            return (int) rest;
        }

        /**
         * Times 2 to the power count, which is below LIMB_BITS. The limb above the other's
         * own is written even when it is 0: a division begins there.
         */
        void becomeMovedUp(Natural other, int count) {
            int carry = 0;
            for (int i = 0; i < other.size; i++) {
                long moved = (long) other.limbs[i] << count | carry;
                limbs[i] = (int) (moved & LIMB_MASK);
                carry = (int) (moved >>> LIMB_BITS);
            }
            limbs[other.size] = carry;
            trim(other.size + 1);
        }

        /** Undoes becomeMovedUp. */
        void moveDown(int count) {
            for (int i = 0; i < size; i++) {
                int entering = limbAt(i + 1) << (LIMB_BITS - count);
                limbs[i] = (limbs[i] >>> count | entering) & LIMB_MASK;
            }
            trim(size);
        }

        /** What is left without the lowest count bits, when that is below two limbs. */
        long withoutLowest(int count) {
            int i = count / LIMB_BITS;
            int inside = count % LIMB_BITS;
            long high = (long) limbAt(i + 2) << (2 * LIMB_BITS - inside);
            long middle = (long) limbAt(i + 1) << (LIMB_BITS - inside);
            return high | middle | limbAt(i) >>> inside;
        }
    }

    /** Division by hand, limb by limb (Knuth's algorithm D). */
    private static final class Division {
        final Natural quotient = new Natural(WIDE_LIMBS);
        final Natural rest = new Natural(WIDE_LIMBS);
        /** The divisor moved up till its highest bit is set: only so are guesses close. */
        final Natural scaled = new Natural(WIDE_LIMBS);

        /** Neither of the two is a part of this division; a divisor 0 leaves all as rest. */
        void divide(Natural dividend, Natural divisor) {
            if (divisor.isZero() || dividend.order(divisor) < 0) {
                quotient.size = 0;
                rest.become(dividend);
                return;
            }
            if (divisor.size == 1) {
                quotient.become(dividend);
                rest.becomeUnsigned(quotient.divideBy(divisor.limbs[0]));
                return;
            }
            int moved = divisor.size * LIMB_BITS - divisor.bitLength();
            scaled.becomeMovedUp(divisor, moved);
            rest.becomeMovedUp(dividend, moved);
            int highest = dividend.size - divisor.size;
            for (int at = highest; at >= 0; at--) {
                int digit = guess(at);
                if (takeAway(digit, at)) {
                    giveBack(at);
                    digit--;
                }
                quotient.limbs[at] = digit;
            }
            quotient.trim(highest + 1);
            rest.trim(divisor.size);
            rest.moveDown(moved);
        }

        /** The quotient's limb, or one more than it. */
        int guess(int at) {
            int top = at + scaled.size;
            long divisor = scaled.limbs[scaled.size - 1];
            if (divisor == 0) {
                return 0;
            }
            long dividend = (long) rest.limbs[top] << LIMB_BITS | rest.limbs[top - 1];
            long digit = dividend / divisor;
            long left = dividend - digit * divisor;
            long second = scaled.limbs[scaled.size - 2];
            long third = rest.limbs[top - 2];
            for (int tries = 0; tries < 2 && left <= LIMB_MASK; tries++) {
                if (digit <= LIMB_MASK && digit * second <= (left << LIMB_BITS | third)) {
                    break;
                }
                digit--;
                left += divisor;
            }
            return (int) digit;
        }

        /** Answers whether too much was taken; the limb above is used up. */
        boolean takeAway(int digit, int at) {
            long carry = 0;
            for (int i = 0; i < scaled.size; i++) {
                carry += (long) digit * scaled.limbs[i];
                int difference = rest.limbs[at + i] - (int) (carry & LIMB_MASK);
                rest.limbs[at + i] = difference & LIMB_MASK;
                carry = (carry >>> LIMB_BITS) + (difference >>> LIMB_BITS);
            }
            return rest.limbs[at + scaled.size] < carry;
        }

        void giveBack(int at) {
            int carry = 0;
            for (int i = 0; i < scaled.size; i++) {
                int sum = rest.limbs[at + i] + scaled.limbs[i] + carry;
                rest.limbs[at + i] = sum & LIMB_MASK;
                carry = sum >>> LIMB_BITS;
            }
        }
    }

    /**
     * The greatest common divisor by Lehmer's method: many steps of Euclid's are found from
     * the highest bits alone and done in one pass, since a division a step is ten times
     * dearer.
     */
    private static final class CommonDivisor {
        /** Euclid's steps for numbers of 62 bits are below 90, for wide ones below 6000. */
        static final int MOST_SHORT_STEPS = 100;
        static final int MOST_STEPS = 10000;

        final Division division = new Division();
        /** Not below lesser. */
        Natural greater = new Natural(WIDE_LIMBS);
        Natural lesser = new Natural(WIDE_LIMBS);
        /** The pass: greater is to be a times greater and b times lesser, lesser c and d. */
        long a;
        long b;
        long c;
        long d;

        /** The answer holds till the next call. */
        Natural of(Natural one, Natural other) {
            boolean ordered = one.order(other) >= 0;
            greater.become(ordered ? one : other);
            lesser.become(ordered ? other : one);
            for (int step = 0; step < MOST_STEPS && !lesser.isZero(); step++) {
                if (greater.size <= 2) {
                    finishShort();
                } else if (findPass()) {
                    doPass();
                } else {
                    division.divide(greater, lesser);
                    greater.become(lesser);
                    lesser.become(division.rest);
                }
            }
            return greater;
        }

        void finishShort() {
            long x = greater.toLong();
            long y = lesser.toLong();
            for (int step = 0; step < MOST_SHORT_STEPS && y != 0; step++) {
                long rest = x % y;
                x = y;
                y = rest;
            }
            greater.becomeUnsigned(x);
            lesser.becomeUnsigned(y);
        }

        /**
         * Steps on while the quotient is the same for the least and the greatest numbers
         * that have these highest bits, and the factors are limbs. False: not one step.
         */
        boolean findPass() {
            int lowest = greater.bitLength() - 2 * LIMB_BITS;
            long x = greater.withoutLowest(lowest);
            long y = lesser.withoutLowest(lowest);
            a = 1;
            b = 0;
            c = 0;
            d = 1;
            for (int step = 0; step < MOST_SHORT_STEPS && y + c > 0 && y + d > 0; step++) {
                long quotient = (x + a) / (y + c);
                if (quotient != (x + b) / (y + d) || quotient > LIMB_MASK) {
                    break;
                }
                long nextC = a - quotient * c;
                long nextD = b - quotient * d;
                if (Math.abs(nextC) > LIMB_MASK || Math.abs(nextD) > LIMB_MASK) {
                    break;
                }
                a = c;
                b = d;
                c = nextC;
                d = nextD;
                long rest = x - quotient * y;
                x = y;
                y = rest;
            }
            return b != 0;
        }

        /** Of a and b, and of c and d, one is below 0: their products do not add up. */
        void doPass() {
            int count = greater.size;
            long carryOfGreater = 0;
            long carryOfLesser = 0;
            for (int i = 0; i < count; i++) {
                long x = greater.limbs[i];
                long y = lesser.limbAt(i);
                carryOfGreater += a * x + b * y;
                carryOfLesser += c * x + d * y;
                greater.limbs[i] = (int) (carryOfGreater & LIMB_MASK);
                lesser.limbs[i] = (int) (carryOfLesser & LIMB_MASK);
                carryOfGreater >>= LIMB_BITS;
                carryOfLesser >>= LIMB_BITS;
            }
            greater.trim(count);
            lesser.trim(count);
        }
    }

    /** n / d, below 0 or not; 0 is never below 0. */
    private static final class Fraction {
        final Natural n;
        final Natural d;
        boolean below;

        Fraction(int room) {
            n = new Natural(room);
            d = new Natural(room);
            d.becomeUnsigned(1);
        }

        boolean isWhole() {
            return d.isOne();
        }

        boolean fits() {
            return n.fits() && d.fits();
        }

        void become(Fraction other) {
            n.become(other.n);
            d.become(other.d);
            below = other.below;
        }

        void becomeWhole(long value) {
            n.becomeUnsigned(value < 0 ? -value : value);
            d.becomeUnsigned(1);
            below = value < 0;
        }

        void becomeWhole(Natural size, boolean isBelow) {
            n.become(size);
            d.becomeUnsigned(1);
            sign(isBelow);
        }

        /** Called when n is what it will be. */
        void sign(boolean isBelow) {
            below = isBelow && !n.isZero();
        }
    }

    /** Makes new fractions of old ones, in its result; the old ones stay as they are. */
    private static final class Reckoner {
        final Fraction result = new Fraction(WIDE_LIMBS);
        final CommonDivisor commonDivisor = new CommonDivisor();
        final Division division = commonDivisor.division;
        final Natural common = new Natural(LIMBS);
        final Natural first = new Natural(LIMBS);
        final Natural second = new Natural(LIMBS);
        final Natural left = new Natural(WIDE_LIMBS);
        final Natural right = new Natural(WIDE_LIMBS);

        int combine(Fraction a, Fraction b, int operation) {
            switch (operation) {
                case SUM:
                    return add(a, b, b.below);
                case DIFFERENCE:
                    return add(a, b, !b.below);
                case PRODUCT:
                    return multiply(a, b.n, b.d, b.below);
                case QUOTIENT:
                    return b.n.isZero() ? DIVIDED_BY_ZERO : multiply(a, b.d, b.n, b.below);
                case WHOLE_QUOTIENT:
                case REST:
                case COMMON_DIVISOR:
                    return combineWhole(a, b, operation);
                case POWER:
                    return raise(a, b);
                case LESS:
                    return choose(order(a, b) <= 0 ? a : b);
                case GREATER:
                    return choose(order(a, b) >= 0 ? a : b);
                default:
                    return NONE;
            }
        }

        int change(Fraction a, int operation) {
            switch (operation) {
                case NUMERATOR:
                    result.becomeWhole(a.n, a.below);
                    return DONE;
                case DENOMINATOR:
                    result.becomeWhole(a.d, false);
                    return DONE;
                case SIZE:
                    result.become(a);
                    result.sign(false);
                    return DONE;
                case DOWNWARDS:
                case UPWARDS:
                case TOWARDS_ZERO:
                case NEAREST:
                    return makeWhole(a, operation);
                case OTHER_SIGN:
                    result.become(a);
                    result.sign(!a.below);
                    return DONE;
                default:
                    return NONE;
            }
        }

        int order(Fraction a, Fraction b) {
            if (a.below != b.below) {
                return a.below ? -1 : 1;
            }
            left.becomeProduct(a.n, b.d);
            right.becomeProduct(b.n, a.d);
            return a.below ? right.order(left) : left.order(right);
        }

        /** The result, of numbers below the limit, comes to least terms. */
        void reduce() {
            Natural divisor = commonDivisor.of(result.n, result.d);
            if (!divisor.isOne()) {
                result.n.become(over(result.n, divisor));
                result.d.become(over(result.d, divisor));
            }
        }

        /** The answer holds till the next division. */
        private Natural over(Natural dividend, Natural divisor) {
            division.divide(dividend, divisor);
            return division.quotient;
        }

        private int choose(Fraction chosen) {
            result.become(chosen);
            return DONE;
        }

        private int answer() {
            return result.fits() ? DONE : TOO_GREAT;
        }

        /**
         * What the two denominators share is all that the sum's numerator can share with
         * the product of the rest, so least terms need no divisor of the wide numbers.
         */
        private int add(Fraction a, Fraction b, boolean isBelow) {
            common.become(commonDivisor.of(a.d, b.d));
            first.become(over(a.d, common));
            second.become(over(b.d, common));
            left.becomeProduct(a.n, second);
            right.becomeProduct(b.n, first);
            addSides(a.below, isBelow);
            Natural shared = commonDivisor.of(result.n, common);
            result.n.become(over(result.n, shared));
            result.d.becomeProduct(first, over(b.d, shared));
            return answer();
        }

        private void addSides(boolean leftBelow, boolean rightBelow) {
            if (leftBelow == rightBelow) {
                result.n.becomeSum(left, right);
                result.sign(leftBelow);
            } else if (left.order(right) >= 0) {
                result.n.becomeDifference(left, right);
                result.sign(leftBelow);
            } else {
                result.n.becomeDifference(right, left);
                result.sign(rightBelow);
            }
        }

        /** Common divisors go before the products are made: what is left is in least terms. */
        private int multiply(Fraction a, Natural n, Natural d, boolean isBelow) {
            Natural shared = commonDivisor.of(a.n, d);
            first.become(over(a.n, shared));
            second.become(over(d, shared));
            shared = commonDivisor.of(n, a.d);
            left.become(over(n, shared));
            right.become(over(a.d, shared));
            result.n.becomeProduct(first, left);
            result.d.becomeProduct(second, right);
            result.sign(a.below != isBelow);
            return answer();
        }

        private int combineWhole(Fraction a, Fraction b, int operation) {
            if (!a.isWhole() || !b.isWhole()) {
                return NONE;
            }
            if (operation == COMMON_DIVISOR) {
                result.becomeWhole(commonDivisor.of(a.n, b.n), false);
                return DONE;
            }
            if (b.n.isZero()) {
                return DIVIDED_BY_ZERO;
            }
            division.divide(a.n, b.n);
            boolean uneven = a.below != b.below && !division.rest.isZero();
            if (operation == WHOLE_QUOTIENT) {
                becomeQuotient(uneven, a.below != b.below);
            } else if (uneven) {
                left.becomeDifference(b.n, division.rest);
                result.becomeWhole(left, b.below);
            } else {
                result.becomeWhole(division.rest, b.below);
            }
            return DONE;
        }

        private void becomeQuotient(boolean oneMore, boolean isBelow) {
            if (oneMore) {
                division.quotient.multiplyAndAdd(1, 1);
            }
            result.becomeWhole(division.quotient, isBelow);
        }

        /** Every power on the way has a lower exponent, so none is too great too early. */
        private int raise(Fraction a, Fraction b) {
            if (!b.isWhole() || b.below || b.n.size > 1 || b.n.limbAt(0) > GREATEST_EXPONENT) {
                return NONE;
            }
            int exponent = b.n.limbAt(0);
            result.becomeWhole(1);
            for (int bit = EXPONENT_BITS - 1; bit >= 0; bit--) {
                if (!growBy(result)) {
                    return TOO_GREAT;
                }
                if ((exponent >> bit & 1) == 1 && !growBy(a)) {
                    return TOO_GREAT;
                }
            }
            return DONE;
        }

        private boolean growBy(Fraction factor) {
            left.becomeProduct(result.n, factor.n);
            right.becomeProduct(result.d, factor.d);
            result.n.become(left);
            result.d.become(right);
            result.sign(result.below != factor.below);
            return result.fits();
        }

        private int makeWhole(Fraction a, int operation) {
            division.divide(a.n, a.d);
            becomeQuotient(isAwayFromZero(a, operation), a.below);
            return DONE;
        }

        /** Asked when a's size has been divided. */
        private boolean isAwayFromZero(Fraction a, int operation) {
            if (division.rest.isZero() || operation == TOWARDS_ZERO) {
                return false;
            }
            if (operation != NEAREST) {
                return a.below == (operation == DOWNWARDS);
            }
            left.becomeSum(division.rest, division.rest);
            int half = left.order(a.d);
            return half > 0 || half == 0 && division.quotient.isOdd();
        }
    }

    /** The bytes that were fed, and how a number is taken from them. */
    private static final class Tape {
        static final int DIGITS_OF_A_GROUP = 9;

        final byte[] bytes = new byte[MOST_TAPE];
        int length;
        /** What is taken next. */
        int at;

        /** There is room for four bytes: who feeds has looked. */
        void append(int four) {
            for (int moved = 24; moved >= 0; moved -= 8) {
                bytes[length] = (byte) (four >> moved);
                length++;
            }
        }

        /** Takes a fraction, not in least terms yet; false when the tape is none. */
        boolean takeFraction(Fraction fraction) {
            at = 0;
            boolean isBelow = take('-');
            if (!takeNatural(fraction.n)) {
                return false;
            }
            fraction.sign(isBelow);
            fraction.d.becomeUnsigned(1);
            if (take('/') && !(takeNatural(fraction.d) && !fraction.d.isZero())) {
                return false;
            }
            return at == length;
        }

        private boolean take(char wanted) {
            if (at < length && bytes[at] == wanted) {
                at++;
                return true;
            }
            return false;
        }

        private boolean isAtDigit() {
            return at < length && bytes[at] >= '0' && bytes[at] <= '9';
        }

        /** A row that is too great already is left there, before it outgrows its room. */
        private boolean takeNatural(Natural number) {
            int start = at;
            number.size = 0;
            for (int groups = 0; groups < MOST_TAPE && isAtDigit() && number.fits(); groups++) {
                takeGroup(number);
            }
            return at > start && number.fits();
        }

        private void takeGroup(Natural number) {
            int group = 0;
            int scale = 1;
            for (int i = 0; i < DIGITS_OF_A_GROUP && isAtDigit(); i++) {
                group = 10 * group + bytes[at] - '0';
                scale *= 10;
                at++;
            }
            number.multiplyAndAdd(scale, group);
        }
    }

    /** The text that was written last. */
    private static final class Text {
        final char[] characters = new char[MOST_TEXT];
        int length;
        final Natural rest = new Natural(LIMBS);

        /** The radix is one: who writes has looked. */
        void become(Fraction number, int radix) {
            length = 0;
            if (number.below) {
                append('-');
            }
            appendNatural(number.n, radix);
            if (!number.isWhole()) {
                append('/');
                appendNatural(number.d, radix);
            }
        }

        private void append(char character) {
            if (length < characters.length) {
                characters[length] = character;
                length++;
            }
        }

        /** As many digits as a limb holds come from each division of the long number. */
        private void appendNatural(Natural number, int radix) {
            if (number.isZero()) {
                append('0');
                return;
            }
            int power = radix;
            int digits = 1;
            while (digits < LIMB_BITS && power <= LIMB_MASK / radix) {
                power *= radix;
                digits++;
            }
            int start = length;
            rest.become(number);
            for (int groups = 0; groups < MOST_BITS && !rest.isZero(); groups++) {
                appendGroup(rest.divideBy(power), radix, digits);
            }
            turn(start);
        }

        /** The lowest digit first; the highest group has no 0s ahead. */
        private void appendGroup(int group, int radix, int digits) {
            int left = group;
            for (int i = 0; i < digits && (left > 0 || !rest.isZero()); i++) {
                append(DIGITS.charAt(left % radix));
                left /= radix;
            }
        }

        private void turn(int start) {
            int low = start;
            int high = length - 1;
            while (low < high) {
                char kept = characters[low];
                characters[low] = characters[high];
                characters[high] = kept;
                low++;
                high--;
            }
        }
    }
}
