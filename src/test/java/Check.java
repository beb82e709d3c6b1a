import java.nio.charset.StandardCharsets;

/** Asks one object of IntervalText and counts the answers that are not the ones due. */
final class Check {
    static final long INF = Double.doubleToRawLongBits(Double.POSITIVE_INFINITY);
    static final long MINUS_INF = Double.doubleToRawLongBits(Double.NEGATIVE_INFINITY);
    static final long NAN = 9221120237041090560L;
    static final long MAX = Double.doubleToRawLongBits(Double.MAX_VALUE);
    static final long MINUS_MAX = Double.doubleToRawLongBits(-Double.MAX_VALUE);
    static final int COM = 4, DAC = 3, DEF = 2, TRV = 1, ILL = 0;

    private int asked, wrong;
    private String sentence = "";

    static long bits(double value) {
        return Double.doubleToRawLongBits(value);
    }

    /** What is asked from here on tests these words of the document, which the promises named lean on. */
    void sentence(String promises, String words) {
        sentence = "promise " + promises + ", '" + words + "': ";
    }

    void due(String what, long got, long want) {
        due(what, Long.toString(got), Long.toString(want));
    }

    void due(String what, String got, String want) {
        asked++;
        if (!got.equals(want)) {
            wrong++;
            System.out.println(sentence + what + " answered " + got + ", due is " + want);
        }
    }

    /** Feeds a text, byte for byte, and answers what the last feed did. */
    static int feed(IntervalText x, String text) {
        byte[] bytes = text.getBytes(StandardCharsets.ISO_8859_1);
        int answer = 0;
        for (int i = 0; i < bytes.length; i += 8) {
            int n = Math.min(8, bytes.length - i);
            long word = 0;
            for (int k = n - 1; k >= 0; k--) {
                word = (word << 8) | (bytes[i + k] & 255);
            }
            answer = x.feed(word, n);
        }
        return answer;
    }

    /** The out's text, as the words tell it. */
    static String out(IntervalText x) {
        StringBuilder text = new StringBuilder();
        for (int i = 0; i < 60; i++) {
            long word = x.word(i);
            for (int k = 0; k < 8; k++) {
                int one = (int) (word >>> (8 * k)) & 255;
                if (one != 0) {
                    text.append((char) one);
                }
            }
        }
        return text.toString();
    }

    void reads(String text, int mark, long low, long high) {
        reads(new IntervalText(), text, mark, low, high);
    }

    void reads(IntervalText x, String text, int mark, long low, long high) {
        feed(x, text);
        due("read of '" + text + "'", x.read(), mark);
        due("low of '" + text + "'", x.low(), low);
        due("high of '" + text + "'", x.high(), high);
    }

    void reads(String text, int mark, double low, double high) {
        reads(text, mark, bits(low), bits(high));
    }

    void readsAsDue(String text) {
        Oracle due = new Oracle(text);
        reads(text, due.mark, due.low, due.high);
    }

    void isIll(String text) {
        // A good text before it, so that what is left of it would be seen.
        IntervalText x = new IntervalText();
        reads(x, "[1,2]", COM, bits(1), bits(2));
        reads(x, text, ILL, NAN, NAN);
    }

    void isEmpty(String text) {
        reads(text, TRV, INF, MINUS_INF);
    }

    void writes(long low, long high, int mark, int digits, String text) {
        IntervalText x = new IntervalText();
        String what = "write(" + low + ", " + high + ", " + mark + ", " + digits + ")";
        due(what, x.write(low, high, mark, digits), text.length());
        due(what, out(x), text);
    }

    void writes(double low, double high, int mark, int digits, String text) {
        writes(bits(low), bits(high), mark, digits, text);
    }

    void end(String name) {
        System.out.println(name + ": " + asked + " answers, " + wrong + " of them not as due");
        if (wrong != 0 || asked == 0) {
            System.exit(1);
        }
    }
}
