/** Promise 2: feed. */
public final class Promise2FeedTest {
    public static void main(String[] args) {
        Check check = new Check();
        countsBytes(check);
        takesTheLowestFirst(check);
        refusesCounts(check);
        refusesTooMuch(check);
        check.end("promise 2");
    }

    private static void countsBytes(Check check) {
        IntervalText x = new IntervalText();
        int sum = 0;
        for (int n = 1; n <= 8; n++) {
            sum += n;
            check.due("feed of " + n, x.feed(0x2020202020202020L, n), sum);
        }
    }

    private static void takesTheLowestFirst(Check check) {
        IntervalText x = new IntervalText();
        // The bytes above the third one stay away.
        check.due("feed", x.feed(0x5d5d5d5d5d5d315bL | 0x5d0000, 3), 3);
        check.due("read of [1]", x.read(), Check.COM);
        check.due("low of [1]", x.low(), Check.bits(1));
        x.feed(0x5d395d395d39315bL, 2);
        x.feed(-1L << 8 | ']', 1);
        check.due("read of [1]", x.read(), Check.COM);
        // Bytes from 128 on are bytes, too.
        check.due("feed", x.feed(-1L, 8), 8);
        check.due("read", x.read(), Check.ILL);
    }

    private static void refusesCounts(Check check) {
        int[] counts = {0, 9, -1, -8, 400, Integer.MAX_VALUE, Integer.MIN_VALUE};
        IntervalText x = new IntervalText();
        Check.feed(x, "[1]");
        for (int n : counts) {
            check.due("feed of " + n, x.feed(0x2020202020202020L, n), IntervalText.BAD);
        }
        check.due("tape behind BAD", x.feed(' ', 1), 4);
        check.due("read behind BAD", x.read(), Check.COM);
    }

    private static void refusesTooMuch(Check check) {
        IntervalText x = new IntervalText();
        String text = "[" + " ".repeat(395);
        check.due("feed", Check.feed(x, text), 396);
        check.due("feed over 400", x.feed(0, 5), IntervalText.FULL);
        check.due("feed over 400", x.feed(0, 8), IntervalText.FULL);
        check.due("a wrong count on a full tape", x.feed(0, 9), IntervalText.BAD);
        check.due("feed up to 400", Check.feed(x, "1,2]"), 400);
        check.due("feed over 400", x.feed(' ', 1), IntervalText.FULL);
        check.due("a wrong count on a full tape", x.feed(' ', 0), IntervalText.BAD);
        check.due("read of 400 bytes", x.read(), Check.COM);
        check.due("low of 400 bytes", x.low(), Check.bits(1));
        check.due("high of 400 bytes", x.high(), Check.bits(2));
        check.due("feed behind read", x.feed(' ', 1), 1);
    }
}
