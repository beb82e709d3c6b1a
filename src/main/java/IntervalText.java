/**
 * Reads and writes texts of marked intervals of real numbers whose ends are floats of 64 bits:
 * whatever a text tells is enclosed by the tightest ends, and what is written never lies inside.
 */
public final class IntervalText {
    public static final int BAD = -1, FULL = -2;

    private static final int COM = 4, DAC = 3, DEF = 2, TRV = 1, ILL = 0;
    private static final int TAPE_ROOM = 400;
    // The longest text written has two ends of 25 bytes, three bytes around them and a mark of 4.
    private static final int OUT_ROOM = 64;
    private static final int MOST_DIGITS = 18;
    private static final int NOTHING = -1;

    private static final long SIGN = 0x8000000000000000L;
    private static final long INFINITY = 0x7ff0000000000000L;
    private static final long MINUS_INFINITY = 0xfff0000000000000L;
    private static final long NAN = 0x7ff8000000000000L;
    private static final long LARGEST = 0x7fefffffffffffffL;
    private static final int FRACTION_BITS = 52;
    private static final long HIDDEN_BIT = 0x0010000000000000L;
    private static final long FRACTION = 0x000fffffffffffffL;
    // A float is a whole number of units 2 ^ LEAST_UNIT .. 2 ^ GREATEST_UNIT, below 2 ^ 53 of them.
    private static final int LEAST_UNIT = -1074, GREATEST_UNIT = 971;

    // 30 bits: a product of two limbs and all carries stay below 2 ^ 63.
    private static final int LIMB_BITS = 30;
    private static final long LIMB_MASK = 0x3fffffffL;
    // The longest number stands in the comparison of [ 9..9e999 , .0..01e-999 ]: 400 digits and
    // twice 5 ^ 999 stay below 6000 bits, 200 limbs.
    private static final int LIMBS = 224;
    private static final int LARGEST_FIVE = 12;
    private static final int[] FIVES = {1, 5, 25, 125, 625, 3125, 15625, 78125, 390625, 1953125,
        9765625, 48828125, 244140625};

    private final Row tape, out;
    private final Arithmetic arithmetic;
    private final Scanner scanner;
    private final Printer printer;
    private long lowEnd, highEnd;

    public IntervalText() {
        tape = new Row(new char[TAPE_ROOM]);
        out = new Row(new char[OUT_ROOM]);
        arithmetic = new Arithmetic();
        scanner = new Scanner(tape, arithmetic);
        printer = new Printer(out, arithmetic);
        lowEnd = NAN;
        highEnd = NAN;
    }

    public int feed(long bytes, int n) {
        if (n < 1 || n > 8) {
            return BAD;
        }
        if (tape.size + n > TAPE_ROOM) {
            return FULL;
        }
        for (int i = 0; i < n; i++) {
            tape.add((int) (bytes >>> (8 * i)) & 255);
        }
        return tape.size;
    }

    public int read() {
        scanner.start();
        boolean isRight = scanner.isAtBracket() ? scanner.takeBracket() : scanner.takeSpread();
        int mark = isRight ? scanner.takeMark() : ILL;
        tape.size = 0;
        if (mark == ILL) {
            return keep(NAN, NAN, ILL);
        }
        if (scanner.empty) {
            return keep(INFINITY, MINUS_INFINITY, mark);
        }
        long least = scanner.openBelow ? MINUS_INFINITY : arithmetic.rounded(scanner.first, false);
        long greatest = scanner.openAbove ? INFINITY : arithmetic.rounded(scanner.second, true);
        return keep(least, greatest, Math.min(mark, strongestMark(least, greatest)));
    }

    public long low() {
        return lowEnd;
    }

    public long high() {
        return highEnd;
    }

    public int write(long low, long high, int mark, int digits) {
        if (mark < ILL || mark > COM || digits < 0 || digits > MOST_DIGITS) {
            return BAD;
        }
        out.size = 0;
        long least = withoutZeroSign(low);
        long greatest = withoutZeroSign(high);
        if (!areEnds(least, greatest)) {
            out.addText("[empty]");
            out.addText(markText(TRV));
        } else if (mark == ILL) {
            out.addText("[nai]");
        } else {
            printer.addInterval(least, greatest, digits);
            out.addText(markText(Math.min(mark, strongestMark(least, greatest))));
        }
        return out.size;
    }

    public int back() {
        if (tape.size + out.size > TAPE_ROOM) {
            return FULL;
        }
        for (int i = 0; i < out.size; i++) {
            tape.add(out.at(i));
        }
        return tape.size;
    }

    public long word(int i) {
        // Looked at first, so that 8 * i cannot wrap around.
        if (i < 0 || i >= OUT_ROOM / 8) {
            return 0;
        }
        long word = 0;
        for (int k = 7; k >= 0; k--) {
            int one = out.at(8 * i + k);
            word = (word << 8) | (one == NOTHING ? 0 : one);
        }
        return word;
    }

    private int keep(long least, long greatest, int mark) {
        lowEnd = least;
        highEnd = greatest;
        return mark;
    }

    private static int strongestMark(long least, long greatest) {
        return least == MINUS_INFINITY || greatest == INFINITY ? DAC : COM;
    }

    private static long withoutZeroSign(long bits) {
        return bits == SIGN ? 0 : bits;
    }

    private static boolean areEnds(long least, long greatest) {
        return !isNan(least) && !isNan(greatest) && least != INFINITY && greatest != MINUS_INFINITY
            && place(least) <= place(greatest);
    }

    private static boolean isNan(long bits) {
        return (bits & ~SIGN) > INFINITY;
    }

    /** A number that is ordered as the floats are. */
    private static long place(long bits) {
        return bits >= 0 ? bits : -(bits & ~SIGN);
    }

    private static String markText(int mark) {
        switch (mark) {
            case COM: return "_com";
            case DAC: return "_dac";
            case DEF: return "_def";
            default: return "_trv";
        }
    }

    /** Bytes in a room that never grows. */
    private static final class Row {
        final char[] chars;
        int size;

        Row(char[] room) {
            chars = room;
            size = 0;
        }

        int at(int i) {
            return i >= 0 && i < size && i < chars.length ? chars[i] : NOTHING;
        }

        void add(int one) {
            if (size >= 0 && size < chars.length) {
                chars[size] = (char) one;
                size++;
            }
        }

        void addText(String text) {
            for (int i = 0; i < text.length(); i++) {
                add(text.charAt(i));
            }
        }

        void toLowerCase() {
            for (int i = 0; i < size && i < chars.length; i++) {
                if (chars[i] >= 'A' && chars[i] <= 'Z') {
                    chars[i] = (char) (chars[i] - 'A' + 'a');
                }
            }
        }
    }

    /** A whole number from 0 on; the lowest limb stands first, the last one is never 0. */
    private static final class Natural {
        final int[] limbs;
        int size;

        Natural() {
            limbs = new int[LIMBS];
            size = 0;
        }

        int limb(int i) {
            return i >= 0 && i < size && i < LIMBS ? limbs[i] : 0;
        }

        void set(long value) {
            size = 0;
            for (long left = value; left > 0 && size < LIMBS; left >>= LIMB_BITS) {
                limbs[size] = (int) (left & LIMB_MASK);
                size++;
            }
        }

        void copy(Natural other) {
            for (int i = 0; i < other.size && i < LIMBS; i++) {
                limbs[i] = other.limbs[i];
            }
            size = other.size;
        }

        int bits() {
            int top = limb(size - 1);
            int used = 0;
            while (used < LIMB_BITS && top >> used != 0) {
                used++;
            }
            return size == 0 ? 0 : (size - 1) * LIMB_BITS + used;
        }

        /** Below 0, 0 or above 0 as this is below, equal to or above the other one moved up by some limbs. */
        int compareWith(Natural other, int up) {
            if (size != other.size + up) {
                return size - other.size - up;
            }
            for (int i = size - 1; i >= 0; i--) {
                if (limb(i) != other.limb(i - up)) {
                    return limb(i) - other.limb(i - up);
                }
            }
            return 0;
        }

        void timesPlus(int factor, int addend) {
            long carry = addend;
            for (int i = 0; i < size && i < LIMBS; i++) {
                carry += (long) limbs[i] * factor;
                limbs[i] = (int) (carry & LIMB_MASK);
                carry >>= LIMB_BITS;
            }
            if (carry > 0 && size >= 0 && size < LIMBS) {
                limbs[size] = (int) carry;
                size++;
            }
        }

        void timesPowerOfFive(int power) {
            for (int left = power; left > 0; left -= LARGEST_FIVE) {
                timesPlus(FIVES[Math.min(left, LARGEST_FIVE)], 0);
            }
        }

        void plus(Natural other) {
            int longest = Math.min(Math.max(size, other.size) + 1, LIMBS);
            long carry = 0;
            for (int i = 0; i < longest; i++) {
                carry += (long) limb(i) + other.limb(i);
                limbs[i] = (int) (carry & LIMB_MASK);
                carry >>= LIMB_BITS;
            }
            trim(longest);
        }

        /** Takes off the other one, so many times and moved up by some limbs; it must not be above this. */
        void minusTimes(Natural other, long times, int up) {
            long carry = 0;
            for (int i = Math.max(up, 0); i < size && i < LIMBS; i++) {
                carry += limbs[i] - times * other.limb(i - up);
                limbs[i] = (int) (carry & LIMB_MASK);
                carry >>= LIMB_BITS;
            }
            trim(size);
        }

        /** Becomes what is left of the other one without this; it must not be below this. */
        void takeFrom(Natural other) {
            int longest = Math.min(other.size, LIMBS);
            long carry = 0;
            for (int i = 0; i < longest; i++) {
                carry += (long) other.limb(i) - limb(i);
                limbs[i] = (int) (carry & LIMB_MASK);
                carry >>= LIMB_BITS;
            }
            trim(longest);
        }

        void setProduct(Natural one, Natural other) {
            int longest = Math.min(one.size + other.size, LIMBS);
            for (int i = 0; i < longest; i++) {
                limbs[i] = 0;
            }
            for (int i = 0; i < one.size; i++) {
                long factor = one.limb(i);
                long carry = 0;
                for (int k = i; k <= i + other.size && k < longest; k++) {
                    carry += limbs[k] + factor * other.limb(k - i);
                    limbs[k] = (int) (carry & LIMB_MASK);
                    carry >>= LIMB_BITS;
                }
            }
            trim(longest);
        }

        void shiftLeft(int count) {
            if (count <= 0 || size == 0) {
                return;
            }
            int whole = count / LIMB_BITS;
            int part = count % LIMB_BITS;
            int longest = Math.min(size + whole + 1, LIMBS);
            for (int i = longest - 1; i >= 0; i--) {
                long upper = (long) limb(i - whole) << part;
                int lower = limb(i - whole - 1) >> (LIMB_BITS - part);
                limbs[i] = (int) ((upper | lower) & LIMB_MASK);
            }
            trim(longest);
        }

        private void trim(int longest) {
            size = longest < LIMBS ? longest : LIMBS;
            while (size > 0 && limbs[size - 1] == 0) {
                size--;
            }
        }
    }

    /** Exactly top / bottom * 2 ^ power, with a sign; the bottom is never 0. */
    private static final class Ratio {
        final Natural top, bottom;
        boolean negative;
        int power;

        Ratio() {
            top = new Natural();
            bottom = new Natural();
            bottom.set(1);
            negative = false;
            power = 0;
        }

        /** A whole number whose top the caller gives. */
        void startWhole(boolean isNegative) {
            bottom.set(1);
            negative = isNegative;
            power = 0;
        }

        void copy(Ratio other) {
            top.copy(other.top);
            bottom.copy(other.bottom);
            negative = other.negative;
            power = other.power;
        }

        int sign() {
            return top.size == 0 ? 0 : negative ? -1 : 1;
        }

        void addToTop(Natural amount, boolean isNegative) {
            if (negative == isNegative) {
                top.plus(amount);
            } else if (top.compareWith(amount, 0) >= 0) {
                top.minusTimes(amount, 1, 0);
            } else {
                top.takeFrom(amount);
                negative = isNegative;
            }
        }

        void timesPowerOfTen(int exponent) {
            if (exponent >= 0) {
                top.timesPowerOfFive(exponent);
            } else {
                bottom.timesPowerOfFive(-exponent);
            }
            power += exponent;
        }
    }

    /** What needs two long numbers of its own to work on. */
    private static final class Arithmetic {
        final Natural left, right;
        long quotient;
        boolean inexact;

        Arithmetic() {
            left = new Natural();
            right = new Natural();
            quotient = 0;
            inexact = false;
        }

        boolean isAbove(Ratio one, Ratio other) {
            int sign = one.sign();
            if (sign != other.sign() || sign == 0) {
                return sign > other.sign();
            }
            return sign > 0 ? compareSizes(one, other) > 0 : compareSizes(one, other) < 0;
        }

        private int compareSizes(Ratio one, Ratio other) {
            left.setProduct(one.top, other.bottom);
            right.setProduct(other.top, one.bottom);
            int shift = one.power - other.power;
            int gap = left.bits() + shift - right.bits();
            // Powers of 2 may be far apart; only sizes with the same highest bit are laid side by side.
            if (gap != 0) {
                return gap;
            }
            left.shiftLeft(shift);
            right.shiftLeft(-shift);
            return left.compareWith(right, 0);
        }

        /** The whole units 2 ^ unit in a ratio without its sign, below 2 ^ 62, and whether some is left. */
        void divide(Ratio ratio, int unit) {
            left.copy(ratio.top);
            right.copy(ratio.bottom);
            left.shiftLeft(ratio.power - unit);
            right.shiftLeft(unit - ratio.power);
            fillTopLimb();
            long aboveTop = right.limb(right.size - 1) + 1L;
            quotient = 0;
            for (int up = left.size - right.size; up >= 0; up--) {
                int top = right.size + up;
                long head = ((long) left.limb(top) << LIMB_BITS) + left.limb(top - 1);
                // Never too high, since the divisor is below its top limb + 1; too low by 3 at most.
                long times = aboveTop > 0 ? head / aboveTop : 0;
                left.minusTimes(right, times, up);
                for (int i = 0; i < 3 && left.compareWith(right, up) >= 0; i++) {
                    left.minusTimes(right, 1, up);
                    times++;
                }
                quotient = (quotient << LIMB_BITS) + times;
            }
            inexact = left.size > 0;
        }

        /** A guess from the top limbs is only close if the divisor's top limb has its highest bit. */
        private void fillTopLimb() {
            int spare = right.size * LIMB_BITS - right.bits();
            left.shiftLeft(spare);
            right.shiftLeft(spare);
        }

        long rounded(Ratio ratio, boolean upward) {
            if (ratio.sign() == 0) {
                return 0;
            }
            long size = roundedSize(ratio, upward != ratio.negative);
            return ratio.negative && size != 0 ? size | SIGN : size;
        }

        private long roundedSize(Ratio ratio, boolean away) {
            // The size lies between 2 ^ (about - 1) and 2 ^ (about + 1).
            int about = ratio.top.bits() - ratio.bottom.bits() + ratio.power;
            if (about > GREATEST_UNIT + FRACTION_BITS + 2) {
                return away ? INFINITY : LARGEST;
            }
            if (about < LEAST_UNIT - 1) {
                return away ? 1 : 0;
            }
            int unit = Math.max(about - FRACTION_BITS - 1, LEAST_UNIT);
            divide(ratio, unit);
            long units = quotient;
            if (units >= 2 * HIDDEN_BIT) {
                inexact = inexact || (units & 1) != 0;
                units >>= 1;
                unit++;
            }
            if (unit > GREATEST_UNIT) {
                return away ? INFINITY : LARGEST;
            }
            // The hidden bit, and a carry into the next power of 2, count E up by themselves.
            return ((long) (unit - LEAST_UNIT) << FRACTION_BITS) + units + (inexact && away ? 1 : 0);
        }
    }

    /** Takes the tape's text apart, from its start to its end. */
    private static final class Scanner {
        final Row tape;
        final Arithmetic arithmetic;
        final Ratio first, second;
        final Natural radius;
        boolean empty, openBelow, openAbove;
        private int at;
        private int fraction, exponent;
        private boolean hasPoint;

        Scanner(Row itsTape, Arithmetic itsArithmetic) {
            tape = itsTape;
            arithmetic = itsArithmetic;
            first = new Ratio();
            second = new Ratio();
            radius = new Natural();
        }

        void start() {
            tape.toLowerCase();
            while (tape.size > 0 && isBlank(tape.at(tape.size - 1))) {
                tape.size--;
            }
            at = 0;
            takeBlanks();
            empty = false;
            openBelow = false;
            openAbove = false;
        }

        boolean isAtBracket() {
            return peek() == '[';
        }

        /** The mark that the text has before its ends are rounded, ILL if it may not be. */
        int takeMark() {
            int strongest = empty ? TRV : openBelow || openAbove ? DAC : COM;
            if (at == tape.size) {
                return strongest;
            }
            for (int mark = TRV; mark <= strongest; mark++) {
                if (takeWord(markText(mark))) {
                    return at == tape.size ? mark : ILL;
                }
            }
            return ILL;
        }

        boolean takeBracket() {
            takeWord("[");
            takeBlanks();
            if (takeWord("empty") || peek() == ']') {
                empty = true;
                return takeClose();
            }
            if (takeWord("entire")) {
                openBelow = true;
                openAbove = true;
                return takeClose();
            }
            // [nai] is refused here like any other word that is no number: both are ill.
            return takeEnds();
        }

        private boolean takeEnds() {
            openBelow = peek() == ',' || takeInfinity("-inf");
            if (!openBelow && !takeNumber(first)) {
                return false;
            }
            takeBlanks();
            if (!openBelow && peek() == ']') {
                second.copy(first);
                return takeClose();
            }
            if (!takeWord(",")) {
                return false;
            }
            takeBlanks();
            openAbove = peek() == ']' || takeInfinity("inf") || takeInfinity("+inf");
            if (!openAbove && !takeNumber(second)) {
                return false;
            }
            return takeClose() && (openBelow || openAbove || !arithmetic.isAbove(first, second));
        }

        private boolean takeClose() {
            takeBlanks();
            return takeWord("]");
        }

        private boolean takeInfinity(String word) {
            if (!takeWord(word)) {
                return false;
            }
            takeWord("inity");
            return true;
        }

        private boolean takeNumber(Ratio ratio) {
            ratio.startWhole(takeSign());
            boolean isBase16 = takeWord("0x");
            if (!takeDigits(ratio.top, isBase16 ? 16 : 10, true)) {
                return false;
            }
            if (isBase16) {
                boolean isRight = takeExponent('p', 4, false);
                ratio.power = exponent - 4 * fraction;
                return isRight;
            }
            if (!hasPoint && takeWord("/")) {
                return takeDigits(ratio.bottom, 10, false) && ratio.bottom.size > 0;
            }
            boolean isRight = takeExponent('e', 3, true);
            ratio.timesPowerOfTen(exponent - fraction);
            return isRight;
        }

        /** M ? R V X, from its M on. */
        boolean takeSpread() {
            first.startWhole(takeSign());
            if (!takeDigits(first.top, 10, true) || !takeWord("?")) {
                return false;
            }
            int behindPoint = fraction;
            boolean isFar = takeWord("?");
            if (!isFar && !takeDigits(radius, 10, false)) {
                // A half is told in halves, so that the top stays whole.
                first.top.timesPlus(2, 0);
                first.power = -1;
                radius.set(1);
            }
            boolean isUpward = takeWord("u");
            boolean isDownward = !isUpward && takeWord("d");
            if (!takeExponent('e', 3, true)) {
                return false;
            }
            second.copy(first);
            openBelow = isFar && !isUpward;
            openAbove = isFar && !isDownward;
            if (!isFar && !isUpward) {
                first.addToTop(radius, true);
            }
            if (!isFar && !isDownward) {
                second.addToTop(radius, false);
            }
            first.timesPowerOfTen(exponent - behindPoint);
            second.timesPowerOfTen(exponent - behindPoint);
            return true;
        }

        private boolean takeSign() {
            boolean isNegative = peek() == '-';
            if (isNegative || peek() == '+') {
                at++;
            }
            return isNegative;
        }

        /** Whether there is a digit at least. */
        private boolean takeDigits(Natural into, int base, boolean pointMayBe) {
            int count = 0;
            fraction = 0;
            hasPoint = false;
            into.set(0);
            int factor = 1;
            int part = 0;
            for (; at < tape.size; at++) {
                int digit = digitOf(peek());
                if (peek() == '.' && pointMayBe && !hasPoint) {
                    hasPoint = true;
                } else if (digit < base) {
                    count++;
                    fraction += hasPoint ? 1 : 0;
                    factor *= base;
                    part = part * base + digit;
                } else {
                    break;
                }
                // Several digits at once; one more could go beyond a limb.
                if (factor >= 1 << (LIMB_BITS - 4)) {
                    into.timesPlus(factor, part);
                    factor = 1;
                    part = 0;
                }
            }
            into.timesPlus(factor, part);
            return count > 0;
        }

        /** Whether an exponent stands here, or nothing does that begins one and it may be missing. */
        private boolean takeExponent(char letter, int most, boolean mayMiss) {
            exponent = 0;
            if (peek() != letter) {
                return mayMiss;
            }
            at++;
            boolean isNegative = takeSign();
            int count = 0;
            // A digit too many stays behind, where none may stand.
            while (count < most && digitOf(peek()) < 10) {
                exponent = exponent * 10 + digitOf(peek());
                at++;
                count++;
            }
            exponent = isNegative ? -exponent : exponent;
            return count > 0;
        }

        private boolean takeWord(String word) {
            for (int i = 0; i < word.length(); i++) {
                if (tape.at(at + i) != word.charAt(i)) {
                    return false;
                }
            }
            at += word.length();
            return true;
        }

        private void takeBlanks() {
            while (at < tape.size && isBlank(peek())) {
                at++;
            }
        }

        private int peek() {
            return tape.at(at);
        }

        private static boolean isBlank(int one) {
            return one == ' ' || one == '\t';
        }

        private static int digitOf(int one) {
            if (one >= '0' && one <= '9') {
                return one - '0';
            }
            return one >= 'a' && one <= 'f' ? one - 'a' + 10 : 16;
        }
    }

    /** Puts intervals on the out. */
    private static final class Printer {
        final Row out;
        final Arithmetic arithmetic;
        final Ratio ratio;

        Printer(Row itsOut, Arithmetic itsArithmetic) {
            out = itsOut;
            arithmetic = itsArithmetic;
            ratio = new Ratio();
        }

        void addInterval(long least, long greatest, int digits) {
            if (least == MINUS_INFINITY && greatest == INFINITY) {
                out.addText("[entire]");
                return;
            }
            out.add('[');
            int start = out.size;
            addEnd(least, digits, false);
            int comma = out.size;
            out.add(',');
            addEnd(greatest, digits, true);
            if (isWrittenTwice(start, comma)) {
                out.size = comma;
            }
            out.add(']');
        }

        private boolean isWrittenTwice(int start, int comma) {
            int length = comma - start;
            if (out.size - comma - 1 != length) {
                return false;
            }
            for (int i = 0; i < length; i++) {
                if (out.at(start + i) != out.at(comma + 1 + i)) {
                    return false;
                }
            }
            return true;
        }

        private void addEnd(long bits, int digits, boolean upward) {
            long size = bits & ~SIGN;
            if (bits < 0) {
                out.add('-');
            }
            if (size == 0) {
                out.add('0');
            } else if (size == INFINITY) {
                out.addText("inf");
            } else if (digits == 0) {
                addBase16(size);
            } else {
                addDecimal(size, digits, upward != bits < 0);
            }
        }

        private void addBase16(long size) {
            int e = (int) (size >> FRACTION_BITS);
            out.addText(e == 0 ? "0x0." : "0x1.");
            for (int shift = FRACTION_BITS - 4; shift >= 0; shift -= 4) {
                int digit = (int) (size >> shift) & 15;
                out.add(digit < 10 ? '0' + digit : 'a' + digit - 10);
            }
            out.add('p');
            addExponent(Math.max(e, 1) - 1023);
        }

        private void addDecimal(long size, int digits, boolean away) {
            int e = (int) (size >> FRACTION_BITS);
            ratio.startWhole(false);
            ratio.top.set(e == 0 ? size : size & FRACTION | HIDDEN_BIT);
            ratio.power = Math.max(e, 1) - 1 + LEAST_UNIT;
            long first = powerOfTen(digits - 1);
            // 78913 / 2 ^ 18 is so near to the logarithm of 2 that, for every float, this is the
            // exponent of 10 of the power of 2 below it: that of the float itself or one less.
            int exponent = (ratio.top.bits() + ratio.power - 1) * 78913 >> 18;
            ratio.timesPowerOfTen(digits - 1 - exponent);
            arithmetic.divide(ratio, 0);
            long number = arithmetic.quotient;
            boolean isInexact = arithmetic.inexact;
            if (number / 10 >= first) {
                isInexact = isInexact || number % 10 != 0;
                number /= 10;
                exponent++;
            }
            if (isInexact && away) {
                number++;
            }
            if (number / 10 >= first) {
                number /= 10;
                exponent++;
            }
            addDigits(number, digits);
            out.add('e');
            addExponent(exponent);
        }

        private void addDigits(long number, int digits) {
            int left = digits;
            for (long unit = powerOfTen(digits - 1); unit > 0; unit /= 10) {
                out.add('0' + (int) (number / unit % 10));
                if (left == digits && digits > 1) {
                    out.add('.');
                }
                left--;
            }
        }

        private void addExponent(int exponent) {
            if (exponent < 0) {
                out.add('-');
            }
            int size = Math.abs(exponent);
            boolean isShown = false;
            for (int unit = 1000; unit > 0; unit /= 10) {
                isShown = isShown || size >= unit || unit == 1;
                if (isShown) {
                    out.add('0' + size / unit % 10);
                }
            }
        }

        private static long powerOfTen(int exponent) {
            long power = 1;
            for (int i = 0; i < exponent && i < MOST_DIGITS; i++) {
                power *= 10;
            }
            return power;
        }
    }
}
