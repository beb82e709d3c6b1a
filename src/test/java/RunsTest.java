import java.util.Random;

/** Promises 1 to 8 together: calls in any order, with any arguments, against a plain model; always the same runs. */
public final class RunsTest {
    private static final String[] TEXTS = {"[1,2]", "[]", "[entire]", "[nai]", "1?", "[0.1]_dac", "[1,inf]_com", " ",
        "[", "[-1e999,1/3]_com", "7??u", "[2,1]", "[0x1p-1075]", "[EMPTY]_TRV"};
    private static final long[] ENDS = {0, Long.MIN_VALUE, 1, -1, Check.NAN, Check.INF, Check.MINUS_INF, Check.MAX,
        Check.MINUS_MAX, Check.bits(1), Check.bits(-1), Check.bits(0.1), Check.bits(1e22), Long.MAX_VALUE};
    private static final int[] COUNTS = {Integer.MIN_VALUE, -9, -1, 0, 1, 2, 3, 4, 5, 6, 7, 8, 9, 18, 19, 1 << 29,
        Integer.MAX_VALUE};

    private static final long BLANKS = 0x2009202020200920L;

    private final Random random = new Random(17);
    private final Check check = new Check();
    private IntervalText x;
    private String tape, out;
    private long low, high;
    private int calls, seldom, right, full;

    public static void main(String[] args) {
        RunsTest test = new RunsTest();
        for (int i = 0; i < 400; i++) {
            test.oneRun();
        }
        test.check.due("right texts enough", test.right > 1000 ? 1 : 0, 1);
        test.check.due("full tapes enough", test.full > 1000 ? 1 : 0, 1);
        test.check.end("runs of promises 1 to 8");
    }

    private void oneRun() {
        x = new IntervalText();
        tape = "";
        out = "";
        low = Check.NAN;
        high = Check.NAN;
        // In some runs the tape is read so seldom that it becomes full.
        seldom = random.nextBoolean() ? 2 : 40;
        // The dearest round here makes 5 calls.
        calls = 0;
        while (calls <= 507) {
            switch (random.nextInt(8)) {
                case 0: case 1: feed(random.nextInt(8) == 0 ? random.nextLong() : BLANKS, anyCount()); break;
                case 2: feedText(); break;
                case 3: write(); break;
                case 4: back(); break;
                case 5: word(random.nextBoolean() ? random.nextInt(9) : anyCount()); break;
                case 6: ends(); break;
                default: if (random.nextInt(seldom) == 0) read(); break;
            }
        }
    }

    private int anyCount() {
        return COUNTS[random.nextInt(COUNTS.length)];
    }

    private long anyEnd() {
        return random.nextInt(3) == 0 ? random.nextLong() : ENDS[random.nextInt(ENDS.length)];
    }

    private void feed(long bytes, int n) {
        int due = IntervalText.BAD;
        if (n >= 1 && n <= 8) {
            due = tape.length() + n > 400 ? IntervalText.FULL : tape.length() + n;
        }
        check.due("feed(" + bytes + ", " + n + ")", x.feed(bytes, n), due);
        calls++;
        full += due == IntervalText.FULL ? 1 : 0;
        for (int i = 0; due > 0 && i < n; i++) {
            tape += (char) (bytes >>> (8 * i) & 255);
        }
    }

    private void feedText() {
        String text = TEXTS[random.nextInt(TEXTS.length)];
        for (int i = 0; i < text.length(); i += 8) {
            int n = Math.min(8, text.length() - i);
            long bytes = 0;
            for (int k = n - 1; k >= 0; k--) {
                bytes = bytes << 8 | text.charAt(i + k);
            }
            feed(bytes, n);
        }
        if (random.nextInt(seldom) == 0) {
            read();
        }
    }

    private void read() {
        Oracle oracle = new Oracle(tape);
        low = oracle.low;
        high = oracle.high;
        check.due("read of '" + tape + "'", x.read(), oracle.mark);
        calls++;
        right += oracle.mark > 0 ? 1 : 0;
        tape = "";
        ends();
    }

    private void ends() {
        check.due("low", x.low(), low);
        check.due("high", x.high(), high);
        calls += 2;
    }

    private void write() {
        long first = anyEnd();
        long second = anyEnd();
        int mark = random.nextInt(6) == 0 ? anyCount() : random.nextInt(5);
        int digits = random.nextInt(6) == 0 ? anyCount() : random.nextInt(19);
        int got = x.write(first, second, mark, digits);
        calls++;
        String what = "write(" + first + ", " + second + ", " + mark + ", " + digits + ")";
        if (mark < 0 || mark > 4 || digits < 0 || digits > 18) {
            check.due(what, got, IntervalText.BAD);
            return;
        }
        double least = Double.longBitsToDouble(first);
        double greatest = Double.longBitsToDouble(second);
        boolean areEnds = least <= greatest && least < Double.POSITIVE_INFINITY && greatest > Double.NEGATIVE_INFINITY;
        out = !areEnds ? "[empty]_trv" : mark == 0 ? "[nai]" : Oracle.written(least, greatest, mark, digits);
        check.due(what, got, out.length());
    }

    private void back() {
        int due = tape.length() + out.length();
        check.due("back of '" + out + "' onto " + tape.length(), x.back(), due > 400 ? IntervalText.FULL : due);
        calls++;
        if (due <= 400) {
            tape += out;
        }
    }

    private void word(int i) {
        long due = 0;
        for (int k = 7; k >= 0; k--) {
            long place = 8L * i + k;
            due = due << 8 | (place >= 0 && place < out.length() ? out.charAt((int) place) : 0);
        }
        check.due("word(" + i + ") of '" + out + "'", x.word(i), due);
        calls++;
    }
}
