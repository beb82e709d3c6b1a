import java.math.BigDecimal;

/** Each sentence of promises 4 and 5, and of the floats and their rounding, that names a boundary case. */
public final class BoundariesOfEndsTest {
    private static final double INF = Double.POSITIVE_INFINITY, MAX = Double.MAX_VALUE, MIN = Double.MIN_VALUE;
    private static final long FRACTION = 0x000fffffffffffffL;

    private final Check check = new Check();

    public static void main(String[] args) {
        BoundariesOfEndsTest test = new BoundariesOfEndsTest();
        test.answersOfIllAndEmpty();
        test.floatsOfEveryExponent();
        test.zerosWithoutSign();
        test.roundedDownAndUp();
        test.notToTheNearest();
        test.everyPowerOfTen();
        test.check.end("boundaries of promises 4 and 5");
    }

    private void answersOfIllAndEmpty() {
        check.sentence("4 and 5", "the NaN if it is ill, and before anything was read");
        IntervalText x = new IntervalText();
        for (int i = 0; i < 2; i++) {
            check.due("low before", x.low(), 9221120237041090560L);
            check.due("high before", x.high(), 9221120237041090560L);
            // Neither a tape nor an out is read yet.
            Check.feed(x, "[1]");
            x.write(0, 0, Check.COM, 1);
            x.back();
        }
        check.due("read of two texts", x.read(), Check.ILL);
        check.due("low of an ill one", x.low(), 9221120237041090560L);
        check.due("high of an ill one", x.high(), 9221120237041090560L);
        check.sentence("4", "infinity for the empty one");
        check.reads(x, "[]", Check.TRV, 0x7ff0000000000000L, 0xfff0000000000000L);
        check.sentence("5", "-infinity for the empty one");
        check.reads(x, "[empty]_trv", Check.TRV, 0x7ff0000000000000L, 0xfff0000000000000L);
        check.sentence("4 and 5", "The low end of what was read / The high end of what was read");
        check.reads(x, "[-7,9]", Check.COM, Check.bits(-7), Check.bits(9));
        check.reads(x, "[-7", Check.ILL, Check.NAN, Check.NAN);
    }

    /** Just as it is, and with the least more behind its last digit. */
    private void isRead(long bits) {
        String sign = bits < 0 ? "-" : "";
        long size = bits & Long.MAX_VALUE;
        int e = (int) (size >> 52);
        String head = sign + (e == 0 ? "0x0." : "0x1.") + String.format("%013x", size & FRACTION);
        String power = "p" + (Math.max(e, 1) - 1023);
        long next = bits + 1;
        boolean isLast = (size & ~FRACTION) + FRACTION == size && e == 2046;
        long zeroOrBits = size == 0 ? 0 : bits;
        check.reads("[" + head + power + "]", Check.COM, zeroOrBits, zeroOrBits);
        check.reads("[" + head + "000000000001" + power + "]", isLast ? Check.DAC : Check.COM,
            bits < 0 ? next : zeroOrBits, bits < 0 ? zeroOrBits : next);
        check.reads("[" + head + "ffffffffffff" + power + "]", isLast ? Check.DAC : Check.COM,
            bits < 0 ? next : zeroOrBits, bits < 0 ? zeroOrBits : next);
    }

    private void floatsOfEveryExponent() {
        check.sentence("4 and 5", "with E = 0 the value F / 2 ^ 1074");
        for (int bit = 0; bit < 52; bit++) {
            isRead(1L << bit);
            isRead((1L << bit) - 1);
            isRead((1L << bit) | Long.MIN_VALUE);
        }
        isRead(FRACTION);
        isRead(FRACTION | Long.MIN_VALUE);
        isRead(Long.MIN_VALUE);
        check.reads("[4.9406564584124654e-324]", Check.COM, 0L, 1L);
        check.reads("[4.9406564584124655e-324]", Check.COM, 1L, 2L);
        check.sentence("4 and 5", "with E from 1 to 2046 (1 + F / 2 ^ 52) * 2 ^ (E - 1023)");
        for (long e = 1; e <= 2046; e++) {
            isRead(e << 52);
            isRead(e << 52 | FRACTION);
            isRead(e << 52 | Long.MIN_VALUE);
            isRead(e << 52 | FRACTION | Long.MIN_VALUE);
        }
        check.sentence("4 and 5", "with E = 2047 and F = 0 INFINITY");
        check.reads("[,]", Check.DAC, 0xfff0000000000000L, 0x7ff0000000000000L);
        check.reads("[0x1p1024]", Check.DAC, 0x7fefffffffffffffL, 0x7ff0000000000000L);
        check.reads("[-0x1p1024]", Check.DAC, 0xfff0000000000000L, 0xffefffffffffffffL);
        check.sentence("4 and 5", "otherwise none (a NaN, told as 9221120237041090560)");
        check.reads("[nai]", Check.ILL, 9221120237041090560L, 9221120237041090560L);
    }

    private void zerosWithoutSign() {
        check.sentence("4 and 5", "Zeros that are answered have no sign.");
        String[] zeros = {"-0", "-.0", "-0.", "-000.000", "-0e0", "-0e999", "-0e-999", "-0x0p0", "-0x.0p9999",
            "-0X0.p-9999", "-0/1", "-000/9"};
        for (String zero : zeros) {
            check.reads("[" + zero + "]", Check.COM, 0L, 0L);
            check.reads("[" + zero + ",0]", Check.COM, 0L, 0L);
            check.reads("[0," + zero + "]", Check.COM, 0L, 0L);
            check.reads("[-1," + zero + "]", Check.COM, Check.bits(-1), 0L);
        }
        // Below 0, and 0 only when rounded up.
        for (String little : new String[] {"-1e-324", "-1e-999", "-0x1p-1075", "-0x1p-9999", "-1/" + "9".repeat(390)}) {
            check.reads("[" + little + "]", Check.COM, Check.bits(-MIN), 0L);
            check.reads("[" + little.substring(1) + "]", Check.COM, 0L, 1L);
        }
        check.reads("-1?1", Check.COM, Check.bits(-2), 0L);
        check.reads("-0?0", Check.COM, 0L, 0L);
        check.reads("-0??u", Check.DAC, 0L, Check.INF);
        check.reads("-0.0??d", Check.DAC, Check.MINUS_INF, 0L);
        check.reads("-0?1ue-999", Check.COM, 0L, 1L);
        check.reads("-0?1de-999", Check.COM, Check.bits(-MIN), 0L);
    }

    private void roundedDownAndUp() {
        check.sentence("4 and 5",
            "the greatest float not above it (the least one not below it), infinity among these");
        double[] values = {0x1p-100, Math.nextDown(0.5), 0.5, Math.nextUp(0.5), 1, Math.nextUp(1.0), 0x1p30 - 1, 0x1p30,
            0x1p53 - 1, 0x1p53, 0x1p53 + 2, 0x1p60, 0x1p90, Math.nextDown(MAX)};
        for (double value : values) {
            hasNeighbours(value);
        }
        check.reads("[0x1.fffffffffffffp1023]", Check.COM, MAX, MAX);
        for (String more : new String[] {"0x1.fffffffffffff0000000001p1023", "0x1.fffffffffffff8p1023", "0x1p1024",
            "0x1p9999", "1.7976931348623158e308", "1e309", "9e999", "9".repeat(309), "9".repeat(390),
            "9".repeat(309) + "/1"}) {
            check.reads("[" + more + "]", Check.DAC, MAX, INF);
            check.reads("[-" + more + "]", Check.DAC, -INF, -MAX);
        }
        check.reads("[1.7976931348623157e308]", Check.COM, Math.nextDown(MAX), MAX);
        check.sentence("3, 4 and 5", "whatever a text tells is enclosed by the tightest ends");
        check.reads("[-1/3,1/3]", Check.COM, Math.nextDown(-1.0 / 3), Math.nextUp(1.0 / 3));
        check.reads("[1/3,1/3]", Check.COM, 1.0 / 3, Math.nextUp(1.0 / 3));
        check.reads("[0.5,0.75]", Check.COM, 0.5, 0.75);
    }

    private void hasNeighbours(double value) {
        BigDecimal exact = new BigDecimal(value);
        BigDecimal unit = new BigDecimal(Math.scalb(1.0, Math.getExponent(value))).movePointLeft(30);
        check.reads("[" + exact + "]", Check.COM, value, value);
        check.reads("[" + exact.add(unit) + "]", Check.COM, value, Math.nextUp(value));
        check.reads("[" + exact.subtract(unit) + "]", Check.COM, Math.nextDown(value), value);
        check.reads("[-" + exact + "]", Check.COM, -value, -value);
        check.reads("[-" + exact.add(unit) + "]", Check.COM, Math.nextDown(-value), -value);
        check.reads("[-" + exact.subtract(unit) + "]", Check.COM, -value, Math.nextUp(-value));
    }

    private void notToTheNearest() {
        check.sentence("4 and 5", "The ends are rounded outward / infinity from 2 ^ 1024 - 2 ^ 970 on");
        // 2 ^ 1024 - 2 ^ 970 is where the nearest one becomes infinity; outward it is so above the largest float.
        String[] near = {"0x1.fffffffffffff7ffffffp1023", "0x1.fffffffffffff8p1023", "0x1.fffffffffffff80001p1023"};
        for (String number : near) {
            check.reads("[" + number + "]", Check.DAC, MAX, INF);
            check.reads("[0," + number + "]", Check.DAC, 0.0, INF);
            check.reads("[-" + number + ",0]", Check.DAC, -INF, 0.0);
        }
        BigDecimal half = new BigDecimal(2).pow(1024).subtract(new BigDecimal(2).pow(970));
        check.reads("[" + half.toPlainString() + "]", Check.DAC, MAX, INF);
        check.reads("[" + half.subtract(BigDecimal.ONE).toPlainString() + "]_com", Check.DAC, MAX, INF);
        // Halves, and a little to both sides: the even F does not count.
        for (long bits : new long[] {0, 1, 2, Check.bits(1), Check.bits(1) + 1, Check.bits(0x1p52),
            Check.bits(3e300)}) {
            double value = Double.longBitsToDouble(bits);
            String head = (value < 0x1p-1022 ? "0x0." : "0x1.") + String.format("%013x", bits & FRACTION);
            int power = Math.max(Math.getExponent(value), -1022);
            for (String more : new String[] {"00001", "7ffff", "8", "80001", "fffff"}) {
                check.reads("[" + head + more + "p" + power + "]", Check.COM, bits, bits + 1);
                check.reads("[-" + head + more + "p" + power + "]", Check.COM, Check.bits(-Math.nextUp(value)),
                    bits == 0 ? 0 : Check.bits(-value));
            }
        }
    }

    private void everyPowerOfTen() {
        check.sentence("4 and 5", "The ends are rounded outward.");
        for (int power = -999; power <= 999; power++) {
            check.readsAsDue("[-1e" + power + ",1e" + power + "]");
            check.readsAsDue("9?9e" + power);
        }
    }
}
