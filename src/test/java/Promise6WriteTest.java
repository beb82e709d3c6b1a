/** Promise 6: write. */
public final class Promise6WriteTest {
    private static final double INF = Double.POSITIVE_INFINITY, MAX = Double.MAX_VALUE, MIN = Double.MIN_VALUE;

    public static void main(String[] args) {
        Check check = new Check();
        decimals(check);
        edgesOfTheFloats(check);
        base16(check);
        unbounded(check);
        noEnds(check);
        marks(check);
        refuses(check);
        everyPower(check);
        check.end("promise 6");
    }

    private static void decimals(Check check) {
        check.writes(1.0, 2.0, 4, 1, "[1e0,2e0]_com");
        check.writes(1.0, 2.0, 4, 3, "[1.00e0,2.00e0]_com");
        check.writes(1.0, 1.0, 4, 1, "[1e0]_com");
        check.writes(-1.5, -1.5, 3, 2, "[-1.5e0]_dac");
        check.writes(-1.5, -1.5, 3, 1, "[-2e0,-1e0]_dac");
        check.writes(0.1, 0.1, 4, 1, "[1e-1,2e-1]_com");
        check.writes(0.1, 0.1, 4, 17, "[1.0000000000000000e-1,1.0000000000000001e-1]_com");
        check.writes(0.1, 0.1, 4, 18, "[1.00000000000000005e-1,1.00000000000000006e-1]_com");
        check.writes(0.3, 0.3, 4, 17, "[2.9999999999999998e-1,2.9999999999999999e-1]_com");
        check.writes(-0.3, 0.3, 4, 2, "[-3.0e-1,3.0e-1]_com");
        check.writes(-9.99, 9.99, 4, 2, "[-1.0e1,1.0e1]_com");
        check.writes(9.99, 99.9, 4, 1, "[9e0,1e2]_com");
        check.writes(-99.9, -9.99, 4, 1, "[-1e2,-9e0]_com");
        check.writes(123456789.0, 123456789.0, 4, 9, "[1.23456789e8]_com");
        check.writes(123456789.0, 123456789.0, 4, 8, "[1.2345678e8,1.2345679e8]_com");
        check.writes(1e22, 1e22, 4, 18, "[1.00000000000000000e22]_com");
        check.writes(1e-5, 1e5, 4, 1, "[1e-5,1e5]_com");
        check.writes(0.0, 1e100, 4, 1, "[0,2e100]_com");
    }

    private static void edgesOfTheFloats(Check check) {
        check.writes(MAX, MAX, 4, 1, "[1e308,2e308]_com");
        check.writes(-MAX, MAX, 4, 2, "[-1.8e308,1.8e308]_com");
        check.writes(-MAX, -MAX, 4, 18, "[-1.79769313486231571e308,-1.79769313486231570e308]_com");
        check.writes(MIN, MIN, 4, 1, "[4e-324,5e-324]_com");
        check.writes(-MIN, MIN, 4, 3, "[-4.95e-324,4.95e-324]_com");
        check.writes(-MIN, 0.0, 4, 1, "[-5e-324,0]_com");
        check.writes(0x1p-1022, 0x1p-1022, 4, 5, "[2.2250e-308,2.2251e-308]_com");
        check.writes(0.0, 0.0, 4, 18, "[0]_com");
        check.writes(-0.0, -0.0, 4, 7, "[0]_com");
        check.writes(-0.0, 0.0, 4, 1, "[0]_com");
        check.writes(0.0, -0.0, 4, 1, "[0]_com");
        check.writes(-0.0, 1.0, 4, 1, "[0,1e0]_com");
        check.writes(-1.0, -0.0, 4, 1, "[-1e0,0]_com");
    }

    private static void base16(Check check) {
        check.writes(1.0, 2.5, 4, 0, "[0x1.0000000000000p0,0x1.4000000000000p1]_com");
        check.writes(1.0, 1.0, 4, 0, "[0x1.0000000000000p0]_com");
        check.writes(-0.1, MAX, 4, 0, "[-0x1.999999999999ap-4,0x1.fffffffffffffp1023]_com");
        check.writes(-MIN, 0x1p-1022, 4, 0, "[-0x0.0000000000001p-1022,0x1.0000000000000p-1022]_com");
        check.writes(-0x1p-1022, Math.nextDown(0x1p-1022), 1, 0,
            "[-0x1.0000000000000p-1022,0x0.fffffffffffffp-1022]_trv");
        check.writes(0.0, 0.0, 4, 0, "[0]_com");
        check.writes(-0.0, 1e10, 2, 0, "[0,0x1.2a05f20000000p33]_def");
        check.writes(-INF, -1.0, 4, 0, "[-inf,-0x1.0000000000000p0]_dac");
        check.writes(0.0, INF, 4, 0, "[0,inf]_dac");
    }

    private static void unbounded(Check check) {
        for (int digits = 0; digits <= 18; digits++) {
            check.writes(-INF, INF, 3, digits, "[entire]_dac");
            check.writes(-INF, INF, 4, digits, "[entire]_dac");
            check.writes(-INF, INF, 2, digits, "[entire]_def");
            check.writes(-INF, INF, 1, digits, "[entire]_trv");
            check.writes(-INF, INF, 0, digits, "[nai]");
        }
        check.writes(-INF, 5.0, 3, 1, "[-inf,5e0]_dac");
        check.writes(5.0, INF, 2, 2, "[5.0e0,inf]_def");
        check.writes(-INF, 0.0, 1, 2, "[-inf,0]_trv");
    }

    private static void noEnds(Check check) {
        long[][] pairs = {{Check.bits(2), Check.bits(1)}, {Check.bits(-1), Check.bits(-2)},
            {Check.bits(1), Check.bits(-1)}, {Check.bits(MIN), 0}, {0, Check.bits(-MIN)}, {Check.INF, Check.INF},
            {Check.MINUS_INF, Check.MINUS_INF}, {Check.INF, Check.MINUS_INF}, {Check.NAN, Check.bits(1)},
            {Check.bits(1), Check.NAN}, {Check.NAN, Check.NAN}, {-1, 0}, {0, -1}, {Check.INF + 1, Check.INF},
            {Check.MINUS_INF + 1, Check.INF}, {Check.MINUS_INF, Check.INF + 1}, {0, Long.MAX_VALUE}};
        for (long[] pair : pairs) {
            for (int mark = 0; mark <= 4; mark++) {
                check.writes(pair[0], pair[1], mark, 0, "[empty]_trv");
                check.writes(pair[0], pair[1], mark, 18, "[empty]_trv");
            }
        }
    }

    private static void marks(Check check) {
        String[] names = {"", "_trv", "_def", "_dac", "_com"};
        for (int mark = 1; mark <= 4; mark++) {
            check.writes(1.0, 2.0, mark, 1, "[1e0,2e0]" + names[mark]);
            check.writes(1.0, INF, mark, 1, "[1e0,inf]" + names[Math.min(mark, 3)]);
            check.writes(-INF, 1.0, mark, 1, "[-inf,1e0]" + names[Math.min(mark, 3)]);
        }
        check.writes(1.0, 2.0, 0, 1, "[nai]");
        check.writes(1.0, 2.0, 0, 0, "[nai]");
        check.writes(1.0, INF, 0, 5, "[nai]");
    }

    private static void refuses(Check check) {
        int[][] wrong = {{-1, 1}, {5, 1}, {4, -1}, {4, 19}, {0, 19}, {-1, -1}, {Integer.MAX_VALUE, 1},
            {Integer.MIN_VALUE, 1}, {1, Integer.MAX_VALUE}, {1, Integer.MIN_VALUE}};
        IntervalText x = new IntervalText();
        x.write(Check.bits(1), Check.bits(2), 4, 1);
        for (int[] pair : wrong) {
            String what = "write with mark " + pair[0] + " and " + pair[1] + " digits";
            check.due(what, x.write(0, 0, pair[0], pair[1]), IntervalText.BAD);
            check.due(what, x.write(Check.NAN, 0, pair[0], pair[1]), IntervalText.BAD);
        }
        check.due("the out behind BAD", Check.out(x), "[1e0,2e0]_com");
    }

    /** The exponent of 10 is guessed from that of 2: every one of these must do. */
    private static void everyPower(Check check) {
        for (int e = -1074; e <= 1023; e++) {
            double power = Math.scalb(1.0, e);
            for (double value : new double[] {power, Math.nextUp(power), Math.nextDown(power)}) {
                check.writes(-value, value, 4, 1, Oracle.written(-value, value, 4, 1));
                check.writes(-value, value, 4, 18, Oracle.written(-value, value, 4, 18));
            }
        }
    }
}
