/** Promise 8: word. */
public final class Promise8WordTest {
    private static final int[] BEYOND = {-1, -2, Integer.MIN_VALUE, Integer.MAX_VALUE, 8, 50, 51, 1 << 28, 1 << 29,
        1 << 30, -(1 << 29), -(1 << 28)};

    public static void main(String[] args) {
        Check check = new Check();
        IntervalText x = new IntervalText();
        for (int i = -3; i < 60; i++) {
            check.due("word(" + i + ") of an empty out", x.word(i), 0);
        }
        x.write(Check.bits(-0.1), Check.bits(0.1), 4, 0);
        words(check, x, "[-0x1.999999999999ap-4,0x1.999999999999ap-4]_com");
        // The longest texts that there are.
        x.write(Check.bits(-3e-300), Check.bits(-2e-300), 4, 18);
        words(check, x, Oracle.written(-3e-300, -2e-300, 4, 18));
        x.write(Check.bits(-0x1p-1022), Check.bits(-0x1p-1023), 4, 0);
        words(check, x, "[-0x1.0000000000000p-1022,-0x0.8000000000000p-1022]_com");
        // Nothing of a longer text stays behind a shorter one.
        x.write(Check.bits(1), Check.bits(1), 4, 1);
        words(check, x, "[1e0]_com");
        x.write(Check.bits(1), Check.bits(1), 4, 17);
        words(check, x, "[1.0000000000000000e0]_com");
        x.write(Check.bits(1), Check.bits(2), 0, 1);
        words(check, x, "[nai]");
        x.write(Check.bits(-3), Check.bits(2), 4, 2);
        words(check, x, "[-3.0e0,2.0e0]_com");
        check.end("promise 8");
    }

    private static void words(Check check, IntervalText x, String text) {
        for (int i = 0; i < 60; i++) {
            long due = 0;
            for (int k = 7; k >= 0; k--) {
                int place = 8 * i + k;
                due = (due << 8) | (place < text.length() ? text.charAt(place) : 0);
            }
            check.due("word(" + i + ") of " + text, x.word(i), due);
        }
        for (int i : BEYOND) {
            check.due("word(" + i + ") of " + text, x.word(i), 0);
        }
    }
}
