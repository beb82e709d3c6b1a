/** Promise 7: back. */
public final class Promise7BackTest {
    public static void main(String[] args) {
        Check check = new Check();
        comesBehindTheTape(check);
        isFull(check);
        readsWhatItWrote(check);
        check.end("promise 7");
    }

    private static void comesBehindTheTape(Check check) {
        IntervalText x = new IntervalText();
        check.due("back of an empty out", x.back(), 0);
        Check.feed(x, "  ");
        check.due("back of an empty out", x.back(), 2);
        x.write(Check.bits(1), Check.bits(2), 4, 1);
        check.due("back behind two blanks", x.back(), 15);
        check.due("the out stays", Check.out(x), "[1e0,2e0]_com");
        check.due("read", x.read(), Check.COM);
        check.due("low", x.low(), Check.bits(1));
        check.due("high", x.high(), Check.bits(2));
        check.due("back once more", x.back(), 13);
        check.due("back twice", x.back(), 26);
        check.due("read of two texts", x.read(), Check.ILL);
        check.due("back behind read", x.back(), 13);
    }

    private static void isFull(Check check) {
        IntervalText x = new IntervalText();
        x.write(Check.bits(1), Check.bits(2), 4, 1);
        Check.feed(x, " ".repeat(387));
        check.due("back up to 400", x.back(), 400);
        check.due("back over 400", x.back(), IntervalText.FULL);
        check.due("the out behind FULL", Check.out(x), "[1e0,2e0]_com");
        check.due("read behind FULL", x.read(), Check.COM);
        Check.feed(x, " ".repeat(388));
        check.due("back over 400", x.back(), IntervalText.FULL);
        check.due("the tape behind FULL", Check.feed(x, "[3]"), 391);
        check.due("read behind FULL", x.read(), Check.COM);
        check.due("low behind FULL", x.low(), Check.bits(3));
        IntervalText full = new IntervalText();
        Check.feed(full, " ".repeat(400));
        check.due("nothing onto a full tape", full.back(), 400);
    }

    private static void readsWhatItWrote(Check check) {
        double[] values = {Double.NEGATIVE_INFINITY, -Double.MAX_VALUE, -1.5, -Double.MIN_VALUE, 0, Double.MIN_NORMAL,
            1.0 / 3, 1e22, Double.MAX_VALUE, Double.POSITIVE_INFINITY};
        for (double low : values) {
            for (double high : values) {
                for (int mark = 0; mark <= 4; mark++) {
                    readsBack(check, low, high, mark);
                }
            }
        }
    }

    private static void readsBack(Check check, double low, double high, int mark) {
        IntervalText x = new IntervalText();
        boolean areEnds = low <= high && low < Double.POSITIVE_INFINITY && high > Double.NEGATIVE_INFINITY;
        boolean isUnbounded = Double.isInfinite(low) || Double.isInfinite(high);
        int strongest = !areEnds ? Check.TRV : isUnbounded ? Check.DAC : Check.COM;
        int due = areEnds ? Math.min(mark, strongest) : Check.TRV;
        String what = "[" + low + "," + high + "] with mark " + mark + " written, back and read";
        int length = x.write(Check.bits(low), Check.bits(high), mark, 0);
        check.due(what, x.back(), length);
        check.due(what, x.read(), due);
        check.due(what, x.low(), due == 0 ? Check.NAN : areEnds ? Check.bits(low) : Check.INF);
        check.due(what, x.high(), due == 0 ? Check.NAN : areEnds ? Check.bits(high) : Check.MINUS_INF);
    }
}
