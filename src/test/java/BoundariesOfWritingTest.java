import java.math.BigDecimal;

/** Each sentence of promise 6, and of the terms it leans on, that names a boundary case. */
public final class BoundariesOfWritingTest {
    private static final double INF = Double.POSITIVE_INFINITY, MAX = Double.MAX_VALUE, MIN = Double.MIN_VALUE;
    private static final long SIGN = Long.MIN_VALUE;
    private static final String[] MARKS = {"_ill", "_trv", "_def", "_dac", "_com"};
    private static final double[] VALUES = {MIN, 2 * MIN, 3 * MIN, Math.nextDown(0x1p-1022), 0x1p-1022,
        Math.nextUp(0x1p-1022), 1e-308, 1e-5, 0.1, 0.3, Math.nextDown(1.0), 1, Math.nextUp(1.0), 9, 9.5, 9.99, 10, 99,
        99.5, 1e15, 0x1p53, 999999999999999900.0, 1e18, 1e22, 1e23, 9e99, 1e100, 1e308, 0x1p1023, Math.nextDown(MAX),
        MAX};

    private final Check check = new Check();

    public static void main(String[] args) {
        BoundariesOfWritingTest test = new BoundariesOfWritingTest();
        test.zeros();
        test.endsThatAreNone();
        test.marksThatMayNotBe();
        test.markZero();
        test.refusals();
        test.digits();
        test.neverInside();
        test.beyondTheFloats();
        test.carries();
        test.oneNumberAlone();
        test.infiniteEnds();
        test.base16();
        test.everyExponentOfBase16();
        test.check.end("boundaries of promise 6");
    }

    private void zeros() {
        check.sentence("6", "Writes an interval from one float to another one (-0 as 0) / 0 as 0");
        for (int digits = 0; digits <= 18; digits++) {
            check.writes(0L, 0L, Check.COM, digits, "[0]_com");
            check.writes(SIGN, SIGN, Check.COM, digits, "[0]_com");
            check.writes(SIGN, 0L, Check.COM, digits, "[0]_com");
            check.writes(0L, SIGN, Check.COM, digits, "[0]_com");
            check.writes(SIGN, Check.INF, Check.DAC, digits, "[0,inf]_dac");
            check.writes(Check.MINUS_INF, SIGN, Check.DAC, digits, "[-inf,0]_dac");
        }
        check.writes(-0.0, MIN, Check.COM, 1, "[0,5e-324]_com");
        check.writes(-MIN, -0.0, Check.COM, 1, "[-5e-324,0]_com");
    }

    private void endsThatAreNone() {
        check.sentence("6", "If these are no ends, the empty one, with mark TRV / low <= high, low not infinity, high "
            + "not -infinity");
        long one = Check.bits(1);
        long[][] none = {{one + 1, one}, {one, Check.bits(-1)}, {Check.bits(-1), Check.bits(-1) + 1}, {1, 0}, {1, SIGN},
            {0, SIGN | 1}, {SIGN, SIGN | 1}, {Check.INF, Check.INF}, {Check.INF, one}, {Check.INF, Check.MINUS_INF},
            {Check.MINUS_INF, Check.MINUS_INF}, {one, Check.MINUS_INF}, {Check.MAX, Check.MAX - 1},
            {Check.MINUS_MAX, Check.MINUS_INF}, {Check.INF, Check.MAX}};
        for (long[] ends : none) {
            isEmpty(ends[0], ends[1]);
        }
        check.sentence("6", "with E = 2047 and F = 0 INFINITY, otherwise none (a NaN, told as 9221120237041090560)");
        long[] nans = {Check.NAN, Check.INF + 1, Check.MINUS_INF + 1, Long.MAX_VALUE, -1L, Check.NAN | SIGN};
        for (long nan : nans) {
            for (long end : new long[] {0, one, Check.INF, Check.MINUS_INF, nan}) {
                isEmpty(nan, end);
                isEmpty(end, nan);
            }
        }
        check.sentence("6", "low <= high");
        check.writes(one, one, Check.COM, 1, "[1e0]_com");
        check.writes(0L, 1L, Check.COM, 0, "[0,0x0.0000000000001p-1022]_com");
        check.writes(SIGN | 1, SIGN, Check.COM, 0, "[-0x0.0000000000001p-1022,0]_com");
        check.writes(Check.MINUS_INF, Check.MINUS_MAX, Check.DAC, 1, "[-inf,-1e308]_dac");
        check.writes(Check.MAX, Check.INF, Check.DAC, 1, "[1e308,inf]_dac");
    }

    private void isEmpty(long low, long high) {
        for (int mark = 0; mark <= 4; mark++) {
            for (int digits : new int[] {0, 1, 18}) {
                check.writes(low, high, mark, digits, "[empty]_trv");
            }
        }
    }

    private void marksThatMayNotBe() {
        check.sentence("6", "a mark that may not be is the strongest one that may / COM if it is not empty and "
            + "bounded, DAC if it is unbounded, TRV if it is empty");
        for (int mark = 1; mark <= 4; mark++) {
            String unbounded = MARKS[Math.min(mark, 3)];
            check.writes(1.0, 2.0, mark, 1, "[1e0,2e0]" + MARKS[mark]);
            check.writes(0.0, 0.0, mark, 1, "[0]" + MARKS[mark]);
            check.writes(-MAX, MAX, mark, 1, "[-2e308,2e308]" + MARKS[mark]);
            check.writes(1.0, INF, mark, 1, "[1e0,inf]" + unbounded);
            check.writes(-INF, 1.0, mark, 1, "[-inf,1e0]" + unbounded);
            check.writes(-INF, INF, mark, 1, "[entire]" + unbounded);
            check.writes(2.0, 1.0, mark, 1, "[empty]_trv");
        }
    }

    private void markZero() {
        check.sentence("6", "of ends that are right with mark 0 it is [nai] / Behind all but [nai] _ and the mark.");
        double[][] right = {{1, 2}, {1, 1}, {0, 0}, {-INF, INF}, {-INF, 1}, {1, INF}, {-MAX, MAX}, {0, -0.0}};
        for (double[] ends : right) {
            for (int digits = 0; digits <= 18; digits++) {
                check.writes(ends[0], ends[1], 0, digits, "[nai]");
            }
        }
    }

    private void refusals() {
        check.sentence("6", "BAD: mark is not 0 .. 4, or digits not 0 .. 18.");
        int[] marks = {-1, 5, Integer.MIN_VALUE, Integer.MAX_VALUE, 256, -256};
        int[] digits = {-1, 19, Integer.MIN_VALUE, Integer.MAX_VALUE, 256, -256};
        IntervalText x = new IntervalText();
        check.reads(x, "[5,6]", Check.COM, Check.bits(5), Check.bits(6));
        check.due("a right write", x.write(0, Check.INF, 1, 0), "[0,inf]_trv".length());
        for (long low : new long[] {0, Check.NAN, Check.bits(9)}) {
            for (int wrong : marks) {
                check.due("mark " + wrong, x.write(low, Check.bits(1), wrong, 0), IntervalText.BAD);
                check.due("mark " + wrong, x.write(low, Check.bits(1), wrong, 18), IntervalText.BAD);
            }
            for (int wrong : digits) {
                check.due("digits " + wrong, x.write(low, Check.bits(1), 0, wrong), IntervalText.BAD);
                check.due("digits " + wrong, x.write(low, Check.bits(1), 4, wrong), IntervalText.BAD);
                check.due("both", x.write(low, Check.bits(1), 5, wrong), IntervalText.BAD);
            }
        }
        check.due("the out then", Check.out(x), "[0,inf]_trv");
        check.due("low then", x.low(), Check.bits(5));
        check.due("the tape then", x.back(), "[0,inf]_trv".length());
        for (int mark = 0; mark <= 4; mark++) {
            for (int n = 0; n <= 18; n++) {
                String due = mark == 0 ? "[nai]" : Oracle.written(1, 2, mark, n);
                check.writes(1.0, 2.0, mark, n, due);
            }
        }
    }

    private void digits() {
        check.sentence("6", "a digit that is not 0, a point and n - 1 digits (no point for n = 1), e, and the "
            + "exponent of 10 (with - if it is below 0)");
        check.writes(5.0, 5.0, Check.COM, 1, "[5e0]_com");
        check.writes(5.0, 5.0, Check.COM, 2, "[5.0e0]_com");
        check.writes(5.0, 5.0, Check.COM, 18, "[5.00000000000000000e0]_com");
        check.writes(-5.0, -5.0, Check.COM, 18, "[-5.00000000000000000e0]_com");
        check.writes(0.5, 50.0, Check.COM, 1, "[5e-1,5e1]_com");
        check.writes(0x1p-1022, 0x1p1023, Check.COM, 1, "[2e-308,9e307]_com");
        check.writes(-1e10, -1e-9, Check.COM, 1, "[-1e10,-1e-9]_com");
        for (int digits = 1; digits <= 18; digits++) {
            for (double value : VALUES) {
                check.writes(value, value, Check.COM, digits, Oracle.written(value, value, Check.COM, digits));
                check.writes(-value, -value, Check.COM, digits, Oracle.written(-value, -value, Check.COM, digits));
                check.writes(-value, value, Check.COM, digits, Oracle.written(-value, value, Check.COM, digits));
            }
        }
    }

    private void neverInside() {
        check.sentence("6", "what is written never lies inside / rounded outward");
        for (double value : VALUES) {
            for (int digits = 1; digits <= 18; digits++) {
                encloses(value, value, digits);
                encloses(-value, -value, digits);
                encloses(-value, value, digits);
            }
        }
    }

    /** Outside, and not by a whole unit of its last digit. */
    private void encloses(double low, double high, int digits) {
        IntervalText x = new IntervalText();
        x.write(Check.bits(low), Check.bits(high), Check.COM, digits);
        String text = Check.out(x);
        String[] ends = text.substring(1, text.indexOf(']')).split(",");
        BigDecimal least = new BigDecimal(ends[0]);
        BigDecimal greatest = new BigDecimal(ends[ends.length - 1]);
        BigDecimal below = new BigDecimal(low).subtract(least);
        BigDecimal above = greatest.subtract(new BigDecimal(high));
        check.due(text + " begins outside", below.signum() >= 0 ? 1 : 0, 1);
        check.due(text + " ends outside", above.signum() >= 0 ? 1 : 0, 1);
        check.due(text + " begins near", below.compareTo(least.ulp()) < 0 ? 1 : 0, 1);
        check.due(text + " ends near", above.compareTo(greatest.ulp()) < 0 ? 1 : 0, 1);
    }

    private void beyondTheFloats() {
        check.sentence("6", "rounded outward (also beyond the floats: 2e308)");
        check.writes(MAX, MAX, Check.COM, 1, "[1e308,2e308]_com");
        check.writes(-MAX, -MAX, Check.COM, 1, "[-2e308,-1e308]_com");
        check.writes(-MAX, MAX, Check.COM, 2, "[-1.8e308,1.8e308]_com");
        check.writes(-MAX, MAX, Check.COM, 16, "[-1.797693134862316e308,1.797693134862316e308]_com");
        check.writes(MAX, MAX, Check.COM, 17, "[1.7976931348623157e308,1.7976931348623158e308]_com");
        check.writes(MIN, MIN, Check.COM, 1, "[4e-324,5e-324]_com");
        check.writes(-MIN, MIN, Check.COM, 1, "[-5e-324,5e-324]_com");
        // Read again they are told as bounded, and rounded outward once more.
        readsBack(-MAX, MAX, 1, Check.DAC, -INF, INF);
        readsBack(MAX, MAX, 18, Check.DAC, Math.nextDown(MAX), INF);
        readsBack(MIN, MIN, 1, Check.COM, 0, 2 * MIN);
        readsBack(-MAX, MAX, 0, Check.COM, -MAX, MAX);
    }

    private void readsBack(double low, double high, int digits, int mark, double dueLow, double dueHigh) {
        IntervalText x = new IntervalText();
        x.write(Check.bits(low), Check.bits(high), Check.COM, digits);
        x.back();
        String what = Check.out(x) + ", read,";
        check.due(what, x.read(), mark);
        check.due(what + " low", x.low(), Check.bits(dueLow));
        check.due(what + " high", x.high(), Check.bits(dueHigh));
    }

    private void carries() {
        check.sentence("6", "a digit that is not 0, a point and n - 1 digits .. rounded outward");
        // Nines that are rounded away from 0 have one digit more: the exponent goes up, the digits stay n.
        check.writes(9.5, 9.5, Check.COM, 1, "[9e0,1e1]_com");
        check.writes(-9.5, -9.5, Check.COM, 1, "[-1e1,-9e0]_com");
        check.writes(99.5, 99.5, Check.COM, 2, "[9.9e1,1.0e2]_com");
        check.writes(0.99, 0.99, Check.COM, 1, "[9e-1,1e0]_com");
        check.writes(-0.099, 0.099, Check.COM, 1, "[-1e-1,1e-1]_com");
        check.writes(Math.nextDown(1.0), Math.nextDown(1.0), Check.COM, 15,
            "[9.99999999999999e-1,1.00000000000000e0]_com");
        check.writes(Math.nextDown(1.0), Math.nextDown(1.0), Check.COM, 18,
            "[9.99999999999999888e-1,9.99999999999999889e-1]_com");
        check.writes(Math.nextDown(1e18), Math.nextDown(1e18), Check.COM, 15,
            "[9.99999999999999e17,1.00000000000000e18]_com");
        check.writes(9.0, 10.0, Check.COM, 1, "[9e0,1e1]_com");
        check.writes(99.0, 100.0, Check.COM, 2, "[9.9e1,1.0e2]_com");
    }

    private void oneNumberAlone() {
        check.sentence("6", "one number alone if both ends are written the same");
        check.writes(1.0, 1.0, Check.COM, 1, "[1e0]_com");
        check.writes(1.5, 1.5, Check.COM, 1, "[1e0,2e0]_com");
        check.writes(1.5, 1.5, Check.COM, 2, "[1.5e0]_com");
        check.writes(-1.5, -1.5, Check.COM, 2, "[-1.5e0]_com");
        check.writes(-1.5, 1.5, Check.COM, 2, "[-1.5e0,1.5e0]_com");
        // Both ends are rounded outward, so that only a number told exactly is written alone.
        check.writes(1.0, Math.nextUp(1.0), Check.COM, 1, "[1e0,2e0]_com");
        check.writes(Math.nextDown(1.0), 1.0, Check.COM, 1, "[9e-1,1e0]_com");
        check.writes(0x1p53, 0x1p53, Check.COM, 15, "[9.00719925474099e15,9.00719925474100e15]_com");
        check.writes(0x1p53, 0x1p53, Check.COM, 16, "[9.007199254740992e15]_com");
        check.writes(1.0, 1.0, Check.COM, 0, "[0x1.0000000000000p0]_com");
        check.writes(1.0, Math.nextUp(1.0), Check.COM, 0, "[0x1.0000000000000p0,0x1.0000000000001p0]_com");
        check.writes(1.0, 10.0, Check.COM, 1, "[1e0,1e1]_com");
        check.writes(1.0, 1e10, Check.COM, 1, "[1e0,1e10]_com");
    }

    private void infiniteEnds() {
        check.sentence("6", "[entire] / -inf, inf");
        for (int digits = 0; digits <= 18; digits++) {
            for (int mark = 1; mark <= 4; mark++) {
                String text = MARKS[Math.min(mark, 3)];
                check.writes(-INF, INF, mark, digits, "[entire]" + text);
                check.writes(-INF, 0.0, mark, digits, "[-inf,0]" + text);
                check.writes(0.0, INF, mark, digits, "[0,inf]" + text);
                check.writes(-INF, MAX, mark, digits, Oracle.written(-INF, MAX, mark, digits));
                check.writes(-MAX, INF, mark, digits, Oracle.written(-MAX, INF, mark, digits));
            }
        }
        check.writes(-INF, MAX, Check.COM, 1, "[-inf,2e308]_dac");
        check.writes(-MAX, INF, Check.COM, 0, "[-0x1.fffffffffffffp1023,inf]_dac");
    }

    private void base16() {
        check.sentence("6", "With n = 0: each end just as it is, in base 16: a sign, 0x1. and 13 digits 0 .. 9 a .. "
            + "f, p, the exponent of 2 (0x0. and -1022 for E = 0, 0 as 0).");
        check.writes(-1.0, 1.0, Check.COM, 0, "[-0x1.0000000000000p0,0x1.0000000000000p0]_com");
        check.writes(0.5, 2.0, Check.COM, 0, "[0x1.0000000000000p-1,0x1.0000000000000p1]_com");
        check.writes(0x1.0123456789abcp9, 0x1.0123456789abcp9, Check.COM, 0, "[0x1.0123456789abcp9]_com");
        check.writes(0x1.cdef9876543fap99, 0x1.cdef9876543fap99, Check.COM, 0, "[0x1.cdef9876543fap99]_com");
        check.writes(-MAX, MAX, Check.COM, 0, "[-0x1.fffffffffffffp1023,0x1.fffffffffffffp1023]_com");
        check.writes(0x1p-1022, 0x1p-1022, Check.COM, 0, "[0x1.0000000000000p-1022]_com");
        check.writes(Math.nextDown(0x1p-1022), 0x1p-1021, Check.COM, 0,
            "[0x0.fffffffffffffp-1022,0x1.0000000000000p-1021]_com");
        check.writes(-MIN, MIN, Check.COM, 0, "[-0x0.0000000000001p-1022,0x0.0000000000001p-1022]_com");
        check.writes(0.0, MIN, Check.COM, 0, "[0,0x0.0000000000001p-1022]_com");
    }

    private void everyExponentOfBase16() {
        check.sentence("6 and 7", "each end just as it is");
        for (long e = 0; e <= 2046; e++) {
            for (long f : new long[] {1, 0x8000000000000L, 0xfffffffffffffL}) {
                long bits = e << 52 | f;
                IntervalText x = new IntervalText();
                x.write(bits | SIGN, bits, Check.DEF, 0);
                x.back();
                check.due("E = " + e + ", read", x.read(), Check.DEF);
                check.due("E = " + e + ", low", x.low(), bits | SIGN);
                check.due("E = " + e + ", high", x.high(), bits);
                double value = Double.longBitsToDouble(bits);
                check.due("E = " + e, Check.out(x), Oracle.written(-value, value, Check.DEF, 0));
            }
        }
    }
}
