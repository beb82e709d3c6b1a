/** Promises 4 and 5: low and high, the tightest ends. */
public final class Promise4And5EndsTest {
    private static final double INF = Double.POSITIVE_INFINITY, MAX = Double.MAX_VALUE, MIN = Double.MIN_VALUE;

    public static void main(String[] args) {
        Check check = new Check();
        decimals(check);
        base16(check);
        ratios(check);
        spreads(check);
        edgesOfTheFloats(check);
        zeros(check);
        order(check);
        longOnes(check);
        staysUntilTheNextRead(check);
        check.end("promises 4 and 5");
    }

    private static double up(double value) {
        return Math.nextUp(value);
    }

    private static double down(double value) {
        return Math.nextDown(value);
    }

    private static void decimals(Check check) {
        check.reads("[1.5,2.5]", Check.COM, 1.5, 2.5);
        check.reads("[.5,5.]", Check.COM, 0.5, 5.0);
        check.reads("[+.5e+1,+5.e-1]", Check.ILL, Check.NAN, Check.NAN);
        check.reads("[+5.e-1,+.5e+1]", Check.COM, 0.5, 5.0);
        check.reads("[-007.50e000]", Check.COM, -7.5, -7.5);
        // 0.1 lies below its nearest float, 0.3 above it.
        check.reads("[0.1]", Check.COM, down(0.1), 0.1);
        check.reads("[0.3]", Check.COM, 0.3, up(0.3));
        check.reads("[-0.1]", Check.COM, -0.1, up(-0.1));
        check.reads("[-0.3,0.1]", Check.COM, down(-0.3), 0.1);
        check.reads("[9007199254740993]", Check.COM, 9007199254740992.0, 9007199254740994.0);
        check.reads("[-9007199254740993]", Check.COM, -9007199254740994.0, -9007199254740992.0);
        check.reads("[1e22]", Check.COM, 1e22, 1e22);
        check.reads("[1e23]", Check.COM, 1e23, up(1e23));
    }

    private static void base16(Check check) {
        check.reads("[0x1.8p1,0x.fp+04]", Check.COM, 3.0, 15.0);
        check.reads("[-0x10.p-4]", Check.COM, -1.0, -1.0);
        check.reads("[0x1.fffffffffffffp0]", Check.COM, down(2), down(2));
        check.reads("[0x1.fffffffffffff8p0]", Check.COM, down(2), 2.0);
        check.reads("[0x1.00000000000001p0]", Check.COM, 1.0, up(1));
        check.reads("[0x1p1023,0x1.fffffffffffff8p1023]", Check.DAC, 0x1p1023, INF);
        check.reads("[0x1p-1074]", Check.COM, MIN, MIN);
        check.reads("[0x1p-1075]", Check.COM, 0.0, MIN);
        check.reads("[0x1p-9999,0x1p9999]", Check.DAC, 0.0, INF);
        check.reads("[-0x1p9999,-0x1p-9999]", Check.DAC, -INF, 0.0);
    }

    private static void ratios(Check check) {
        check.reads("[1/3]", Check.COM, 1.0 / 3, up(1.0 / 3));
        check.reads("[-1/3,+1/4]", Check.COM, down(-1.0 / 3), 0.25);
        check.reads("[22/7]", Check.COM, 22.0 / 7, up(22.0 / 7));
        check.reads("[6/002,100/10]", Check.COM, 3.0, 10.0);
        check.reads("[0/5]", Check.COM, 0.0, 0.0);
    }

    private static void spreads(Check check) {
        check.reads("10?", Check.COM, 9.5, 10.5);
        check.reads("10?u", Check.COM, 10.0, 10.5);
        check.reads("-10?d", Check.COM, -10.5, -10.0);
        check.reads("10?3", Check.COM, 7.0, 13.0);
        check.reads("10?0", Check.COM, 10.0, 10.0);
        check.reads("10?12", Check.COM, -2.0, 22.0);
        check.reads("-10?12", Check.COM, -22.0, 2.0);
        check.reads("-10?10", Check.COM, -20.0, 0.0);
        check.reads("10?12d", Check.COM, -2.0, 10.0);
        check.reads("1.25?25e2", Check.COM, 100.0, 150.0);
        check.reads("1.?e1", Check.COM, 5.0, 15.0);
        check.reads(".5?5", Check.COM, 0.0, 1.0);
        check.reads("+0?", Check.COM, -0.5, 0.5);
        check.reads("-0.0?u", Check.COM, 0.0, 0.05);
        check.reads("10??u", Check.DAC, 10.0, INF);
        check.reads("-10??d", Check.DAC, -INF, -10.0);
        check.reads("2.5??ue-1", Check.DAC, 0.25, INF);
        check.reads("0.1??d_trv", Check.TRV, -INF, 0.1);
        check.reads("3.56?1", Check.COM, 4615176308138600038L, 4615221344134873744L);
        // Around 2 ^ 30 and 2 ^ 60, where a long number's next limb begins.
        check.reads("1073741823?1", Check.COM, 1073741822.0, 1073741824.0);
        check.reads("-1073741823?1", Check.COM, -1073741824.0, -1073741822.0);
        check.reads("1?1073741823", Check.COM, -1073741822.0, 1073741824.0);
        check.reads("1073741824?1", Check.COM, 1073741823.0, 1073741825.0);
        check.reads("1152921504606846975?1u", Check.COM, down(0x1p60), 0x1p60);
        check.reads("1152921504606846976?1152921504606846976", Check.COM, 0.0, 0x1p61);
        check.reads("1?e999", Check.DAC, MAX, INF);
        check.reads("1?e-999", Check.COM, 0.0, MIN);
        check.reads("1?2e-999", Check.COM, -MIN, MIN);
        check.reads("1?1000000000000000000000", Check.COM, -1e21, up(1e21));
    }

    private static void edgesOfTheFloats(Check check) {
        check.reads("[179769313486231570814527423731704356798070e267]", Check.COM, down(MAX), MAX);
        check.reads("[0x1.fffffffffffffp1023]", Check.COM, MAX, MAX);
        check.reads("[1.8e308]", Check.DAC, MAX, INF);
        check.reads("[-1.8e308]", Check.DAC, -INF, -MAX);
        check.reads("[0x1p1024]", Check.DAC, MAX, INF);
        check.reads("[-0x1p1024,0x1p1024]_def", Check.DEF, -INF, INF);
        check.reads("[5e-324]", Check.COM, MIN, 2 * MIN);
        check.reads("[4.9e-324]", Check.COM, 0.0, MIN);
        check.reads("[2.2250738585072014e-308]", Check.COM, 0x1p-1022, up(0x1p-1022));
        check.reads("[2.2250738585072011e-308]", Check.COM, down(0x1p-1022), 0x1p-1022);
        check.reads("[1e-999,1e999]", Check.DAC, 0.0, INF);
        check.reads("[-1e999,-1e-999]", Check.DAC, -INF, 0.0);
    }

    private static void zeros(Check check) {
        check.reads("[-0]", Check.COM, 0L, 0L);
        check.reads("[-0.000e-99,+0]", Check.COM, 0L, 0L);
        check.reads("[0,-0]", Check.COM, 0L, 0L);
        check.reads("[-0x0p-9999,0/7]", Check.COM, 0L, 0L);
        check.reads("[-0/1,0e999]", Check.COM, 0L, 0L);
        check.reads("[-1e-400]", Check.COM, Check.bits(-MIN), 0L);
        check.reads("-0?0", Check.COM, 0L, 0L);
    }

    private static void order(Check check) {
        check.reads("[1/10,0.1]", Check.COM, down(0.1), 0.1);
        check.reads("[0.1,1/10]", Check.COM, down(0.1), 0.1);
        check.reads("[0x1p-1,1/2]", Check.COM, 0.5, 0.5);
        check.reads("[5e-1,0x1p-1]", Check.COM, 0.5, 0.5);
        check.reads("[-0.5,-0x.8p0]", Check.COM, -0.5, -0.5);
        check.reads("[0x1p-9999,1e-999]", Check.COM, 0.0, MIN);
        check.reads("[1e999,0x1p9999]", Check.DAC, MAX, INF);
        check.reads("[1e999,10e998]", Check.DAC, MAX, INF);
        check.reads("[0x10p9998,0x100p9994]", Check.DAC, MAX, INF);
        check.reads("[0x10p9998,0x100p9993]", Check.ILL, Check.NAN, Check.NAN);
        check.reads("[333333333333333333/1000000000000000000,1/3]", Check.COM, 1.0 / 3, up(1.0 / 3));
    }

    private static void longOnes(Check check) {
        String zeros = "0".repeat(390);
        check.reads("[1" + zeros + "]", Check.DAC, MAX, INF);
        check.reads("[1" + zeros + "e-390]", Check.COM, 1.0, 1.0);
        check.reads("[." + zeros + "1e391]", Check.COM, 1.0, 1.0);
        check.reads("[1." + "0".repeat(380) + "1]", Check.COM, 1.0, up(1));
        check.reads("[0." + "9".repeat(380) + "]", Check.COM, down(1), 1.0);
        check.reads("[0x1" + zeros.substring(5) + "p-1540]", Check.COM, 1.0, 1.0);
        check.reads("[0x." + zeros.substring(5) + "1p1544]", Check.COM, 1.0, 1.0);
        check.reads("[" + "9".repeat(190) + "e999,1/" + "9".repeat(190) + "]", Check.ILL, Check.NAN, Check.NAN);
        check.reads("[." + "0".repeat(375) + "1e-999,9e999]", Check.DAC, 0.0, INF);
        check.reads("[9e999,." + "0".repeat(375) + "1e-999]", Check.ILL, Check.NAN, Check.NAN);
        check.reads("5?" + "9".repeat(390), Check.DAC, -INF, INF);
        check.reads("." + "9".repeat(390) + "?", Check.COM, down(1), 1.0);
    }

    private static void staysUntilTheNextRead(Check check) {
        IntervalText x = new IntervalText();
        check.reads(x, "[1,2]", Check.COM, Check.bits(1), Check.bits(2));
        x.write(Check.bits(5), Check.bits(6), 4, 1);
        x.back();
        Check.feed(x, "[7]");
        check.due("low before the next read", x.low(), Check.bits(1));
        check.due("high before the next read", x.high(), Check.bits(2));
        x.read();
        check.due("low behind an ill text", x.low(), Check.NAN);
        check.due("high behind an ill text", x.high(), Check.NAN);
        check.reads(x, "[]", Check.TRV, Check.INF, Check.MINUS_INF);
        check.reads(x, "[3]", Check.COM, Check.bits(3), Check.bits(3));
    }
}
