/** Each sentence of promises 1, 2, 7 and 8, and of how long an object lasts, that names a boundary case. */
public final class BoundariesOfTapeAndOutTest {
    private static final int ROOM = 400;
    private static final long BLANKS = 0x2020202020202020L;

    private final Check check = new Check();

    public static void main(String[] args) {
        BoundariesOfTapeAndOutTest test = new BoundariesOfTapeAndOutTest();
        test.aNewObject();
        test.theLowestBytes();
        test.countsThatMayNotBe();
        test.moreThanTheTapeHolds();
        test.moreThanTheTapeHoldsOfTheOut();
        test.wordsBehindTheEnd();
        test.wordsThatAreNone();
        test.allCallsOfAnObject();
        test.check.end("boundaries of promises 1, 2, 7 and 8");
    }

    private void aNewObject() {
        check.sentence("1", "An empty tape, nothing read, an empty out.");
        check.due("feed of 8 bytes", new IntervalText().feed(BLANKS, 8), 8);
        check.due("read", new IntervalText().read(), Check.ILL);
        check.due("back", new IntervalText().back(), 0);
        check.due("low", new IntervalText().low(), Check.NAN);
        check.due("high", new IntervalText().high(), Check.NAN);
        for (int i = -1; i <= 8; i++) {
            check.due("word(" + i + ")", new IntervalText().word(i), 0);
        }
        IntervalText full = new IntervalText();
        Check.feed(full, " ".repeat(ROOM));
        check.due("back onto a full tape, of nothing", full.back(), ROOM);
    }

    private void theLowestBytes() {
        check.sentence("2", "The n lowest of eight bytes come behind the tape, the lowest one first: how many it has.");
        String text = "[12,345]";
        for (int n = 1; n <= 8; n++) {
            IntervalText x = new IntervalText();
            // Letters that would spoil the text stand above the bytes that come.
            String rest = "xxxxxxxx".substring(n);
            check.due("feed of " + n, x.feed(word(text.substring(0, n) + rest), n), n);
            for (int i = n; i < 8; i++) {
                check.due("feed of 1 more", x.feed(word(text.charAt(i) + "xxxxxxx"), 1), i + 1);
            }
            check.due("read", x.read(), Check.COM);
            check.due("low", x.low(), Check.bits(12));
            check.due("high", x.high(), Check.bits(345));
        }
        // Bytes with their highest bit are bytes of their own, and reach neither those below nor those above.
        IntervalText x = new IntervalText();
        x.feed(word("[7]\u00ff\u00ff\u00ff\u00ff\u00ff"), 3);
        check.due("read", x.read(), Check.COM);
        check.due("low", x.low(), Check.bits(7));
        x.feed(word("[7\u00dd"), 3);
        check.due("read of [7 and 128 + ]", x.read(), Check.ILL);
    }

    private void countsThatMayNotBe() {
        check.sentence("2", "BAD: n is not 1 .. 8");
        int[] counts = {0, 9, -1, 10, 16, -8, 64, 256, 257, 400, 401, Integer.MAX_VALUE, Integer.MAX_VALUE - 399,
            Integer.MIN_VALUE, Integer.MIN_VALUE + 1};
        for (int size : new int[] {0, 3, 392, 399, ROOM}) {
            IntervalText x = new IntervalText();
            String text = size < 3 ? "" : " ".repeat(size - 3) + "[4]";
            Check.feed(x, text);
            for (int n : counts) {
                check.due("feed of " + n + " onto " + size, x.feed(BLANKS, n), IntervalText.BAD);
            }
            check.due("a tape of " + size + " then", x.back(), size);
            check.due("read then", x.read(), size < 3 ? Check.ILL : Check.COM);
        }
        for (int n = 1; n <= 8; n++) {
            check.due("feed of " + n, new IntervalText().feed(BLANKS, n), n);
        }
    }

    private void moreThanTheTapeHolds() {
        check.sentence("2", "FULL, changing nothing: there would be more than 400.");
        for (int size = 390; size <= ROOM; size++) {
            for (int n = 1; n <= 8; n++) {
                IntervalText x = new IntervalText();
                check.reads(x, "[5,6]", Check.COM, Check.bits(5), Check.bits(6));
                x.write(Check.bits(8), Check.bits(9), Check.COM, 1);
                Check.feed(x, "[1" + " ".repeat(size - 5) + ",2]");
                boolean isFull = size + n > ROOM;
                String what = "feed of " + n + " onto " + size;
                int then = isFull ? size : size + n;
                // What is refused would spoil the text.
                check.due(what, x.feed(isFull ? -1L : BLANKS, n), isFull ? IntervalText.FULL : then);
                check.due(what + ", low", x.low(), Check.bits(5));
                check.due(what + ", high", x.high(), Check.bits(6));
                check.due(what + ", out", Check.out(x), "[8e0,9e0]_com");
                check.due(what + ", one more", x.feed(BLANKS, 1), full(then + 1));
                check.due(what + ", read", x.read(), Check.COM);
                check.due(what + ", low", x.low(), Check.bits(1));
                check.due(what + ", high", x.high(), Check.bits(2));
            }
        }
    }

    private static int full(int size) {
        return size > ROOM ? IntervalText.FULL : size;
    }

    private void moreThanTheTapeHoldsOfTheOut() {
        check.sentence("7", "The out's text comes behind the tape: how many bytes it has. FULL, changing nothing.");
        double[] ends = {0, 1, 1e100, -0x1p-1022};
        for (double end : ends) {
            for (int digits = 0; digits <= 18; digits++) {
                backNearTheEnd(end, digits);
            }
        }
    }

    private void backNearTheEnd(double end, int digits) {
        int length = new IntervalText().write(Check.bits(end), Check.bits(end), Check.COM, digits);
        for (int size = ROOM - length - 2; size <= ROOM; size++) {
            IntervalText x = new IntervalText();
            check.reads(x, "[5,6]", Check.COM, Check.bits(5), Check.bits(6));
            x.write(Check.bits(end), Check.bits(end), Check.COM, digits);
            String text = Check.out(x);
            boolean isFull = size + length > ROOM;
            Check.feed(x, isFull ? "[3]" + " ".repeat(size - 3) : " ".repeat(size));
            String what = "back of " + text + " onto " + size;
            check.due(what, x.back(), isFull ? IntervalText.FULL : size + length);
            check.due(what + ", out", Check.out(x), text);
            check.due(what + ", low", x.low(), Check.bits(5));
            check.due(what + ", feed", x.feed(' ', 1), full(1 + (isFull ? size : size + length)));
            check.due(what + ", read", x.read(), Check.COM);
            Oracle oracle = new Oracle(isFull ? "[3]" : text);
            check.due(what + ", low", x.low(), oracle.low);
            check.due(what + ", high", x.high(), oracle.high);
        }
    }

    private void wordsBehindTheEnd() {
        check.sentence("8", "Eight bytes of the out, from 8 i on, the first one lowest, 0 behind its end");
        // With more and more digits the text ends at each place of a word; a long one stood there before.
        boolean[] ended = new boolean[8];
        for (double end : new double[] {1, 10, -1, 1e100, -1e100}) {
            for (int digits = 1; digits <= 18; digits++) {
                IntervalText x = new IntervalText();
                x.write(Check.bits(-0x1p-1022), Check.bits(-0x1p-1023), Check.COM, 0);
                int length = x.write(Check.bits(end), Check.bits(end), Check.COM, digits);
                ended[length % 8] = true;
                hasWords(x, Oracle.written(end, end, Check.COM, digits));
            }
        }
        for (int i = 0; i < 8; i++) {
            check.due("a text that ends at " + i, ended[i] ? 1 : 0, 1);
        }
    }

    private void hasWords(IntervalText x, String text) {
        String padded = text + "\0".repeat(500 - text.length());
        for (int i = 0; i < 60; i++) {
            check.due("word(" + i + ") of " + text, x.word(i), word(padded.substring(8 * i, 8 * i + 8)));
        }
    }

    private void wordsThatAreNone() {
        check.sentence("8", "0 when there are none");
        IntervalText x = new IntervalText();
        x.write(Check.bits(-0x1p-1022), Check.bits(-0x1p-1023), Check.COM, 0);
        for (int i = -100; i < 100; i++) {
            check.due("word(" + i + ")", i < 0 || i > 6 ? x.word(i) : 0, 0);
        }
        // 8 i wraps around to a place of the out for many of these.
        for (int power = 3; power < 32; power++) {
            for (int more = 0; more < 7; more++) {
                int below = (-1 << power) + more;
                check.due("word(" + below + ")", x.word(below), 0);
                check.due("word(" + (1 << power) + " + " + more + ")", x.word((1 << power) + more), 0);
            }
        }
        check.due("word of the greatest i", x.word(Integer.MAX_VALUE), 0);
        check.due("word of the least i", x.word(Integer.MIN_VALUE), 0);
    }

    private void allCallsOfAnObject() {
        check.sentence("1 to 8", "An object is used for at most 512 calls after it has been made");
        IntervalText x = new IntervalText();
        // 64 rounds of 8 calls; the last answer is that of the 512th call.
        for (int i = 1; i <= 64; i++) {
            int mark = i % 4 + 1;
            String text = Oracle.written(i, Double.POSITIVE_INFINITY, mark, i % 19);
            check.due("feed", x.feed(word("[" + i % 10 + "]"), 3), 3);
            check.due("read", x.read(), Check.COM);
            check.due("high", x.high(), Check.bits(i % 10));
            check.due("write", x.write(Check.bits(i), Check.INF, mark, i % 19), text.length());
            check.due("word", x.word(0), word(text.substring(0, 8)));
            check.due("back", x.back(), text.length());
            check.due("read", x.read(), Math.min(mark, Check.DAC));
            check.due("low of round " + i, x.low(), new Oracle(text).low);
        }
        // The dearest texts, one after the other: 8 rounds of 64 calls.
        IntervalText y = new IntervalText();
        for (int i = 0; i < 8; i++) {
            String text = "[-" + "9".repeat(190) + "e999,." + "0".repeat(195) + "1e-999]";
            for (int place = 0; place < 392; place += 8) {
                check.due("feed", y.feed(word(text.substring(place, place + 8)), 8), place + 8);
            }
            for (int k = 0; k < 8; k++) {
                check.due("feed", y.feed(word(text.substring(392 + k)), 1), 393 + k);
            }
            check.due("feed onto 400", y.feed(' ', 1), IntervalText.FULL);
            check.due("back onto 400", y.back(), i == 0 ? ROOM : IntervalText.FULL);
            check.due("read of 400 bytes", y.read(), Check.DAC);
            check.due("low", y.low(), Check.MINUS_INF);
            check.due("high", y.high(), 1);
            check.due("write", y.write(0, 0, Check.COM, 0), "[0]_com".length());
            check.due("read of nothing", y.read(), Check.ILL);
        }
    }

    /** Eight bytes, or fewer, the first one lowest. */
    private static long word(String text) {
        long word = 0;
        for (int k = text.length() - 1; k >= 0; k--) {
            word = (word << 8) | text.charAt(k);
        }
        return word;
    }
}
