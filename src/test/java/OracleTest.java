import java.util.Random;

/** Promises 3 to 8 against the oracle, over many texts and ends; always the same ones. */
public final class OracleTest {
    private static final String[] MARKS = {"", "", "", "", "_com", "_dac", "_def", "_trv", "_ill", "_COM"};
    private static final String[] SIGNS = {"", "", "-", "+"};
    private static final String LETTERS = "[],?/ \t.eExXpP+-_0123456789uUdDinfatycomrve\0\n\u0080\u00e9";

    private final Random random;
    private final Check check = new Check();
    private IntervalText x = new IntervalText();
    private int calls;

    private OracleTest(long seed) {
        random = new Random(seed);
    }

    public static void main(String[] args) {
        int count = args.length > 0 ? Integer.parseInt(args[0]) : 60000;
        OracleTest test = new OracleTest(args.length > 1 ? Long.parseLong(args[1]) : 1788);
        int right = 0;
        for (int i = 0; i < count; i++) {
            right += test.reads(test.text()) ? 1 : 0;
            test.writes();
        }
        test.check.due("texts enough are right", right > count / 3 ? 1 : 0, 1);
        test.check.due("texts enough are ill", right < count * 9 / 10 ? 1 : 0, 1);
        test.check.end("the oracle, with " + right + " right texts of " + count);
    }

    private IntervalText object(int more) {
        calls += more;
        if (calls > 512) {
            x = new IntervalText();
            calls = more;
        }
        return x;
    }

    private boolean reads(String text) {
        if (text.length() > 400) {
            return false;
        }
        Oracle oracle = new Oracle(text);
        check.reads(object(60), text, oracle.mark, oracle.low, oracle.high);
        return oracle.mark != 0;
    }

    private void writes() {
        double a = value();
        double b = random.nextInt(8) == 0 ? a : random.nextInt(4) == 0 ? Math.nextUp(a) : value();
        double low = Math.min(a, b);
        double high = Math.max(a, b);
        if (low == Double.POSITIVE_INFINITY || high == Double.NEGATIVE_INFINITY) {
            return;
        }
        int mark = 1 + random.nextInt(4);
        int digits = random.nextInt(19);
        String due = Oracle.written(low, high, mark, digits);
        IntervalText y = object(66);
        String what = "write of [" + low + "," + high + "] with " + digits + " digits";
        check.due(what, y.write(Check.bits(low), Check.bits(high), mark, digits), due.length());
        check.due(what, Check.out(y), due);
        Oracle oracle = new Oracle(due);
        check.due(what, y.back(), due.length());
        check.due(what + ", read", y.read(), oracle.mark);
        check.due(what + ", low", y.low(), oracle.low);
        check.due(what + ", high", y.high(), oracle.high);
    }

    private double value() {
        double value = Double.NaN;
        while (Double.isNaN(value)) {
            switch (random.nextInt(6)) {
                case 0: value = random.nextInt(2001) - 1000; break;
                case 1: value = (random.nextInt(20001) - 10000) / 100.0; break;
                case 2: value = Math.scalb(random.nextInt(3) - 1.0, random.nextInt(2200) - 1100); break;
                case 3: value = Double.longBitsToDouble(random.nextLong() & 0x800fffffffffffffL); break;
                case 4: value = Double.parseDouble(random.nextInt(100) + "e" + (random.nextInt(640) - 325)); break;
                default: value = Double.longBitsToDouble(random.nextLong()); break;
            }
        }
        return value;
    }

    private String text() {
        String text = blanks() + bare() + pick(MARKS) + blanks();
        if (random.nextInt(6) == 0) {
            text = spoiled(text);
        }
        return random.nextInt(5) == 0 ? text.toUpperCase(java.util.Locale.ROOT) : text;
    }

    private String bare() {
        switch (random.nextInt(10)) {
            case 0: return "[" + blanks() + pick(new String[] {"", "empty", "entire", "nai", ","}) + blanks() + "]";
            case 1: return "[" + blanks() + number() + blanks() + "]";
            case 2: return "[" + blanks() + pick(new String[] {"-inf", "-infinity", "", "inf", number()}) + blanks()
                + "," + blanks() + pick(new String[] {"inf", "+infinity", "", "-inf", number()}) + blanks() + "]";
            case 3: case 4: case 5: return spread();
            case 6: return near();
            default: return "[" + blanks() + number() + blanks() + "," + blanks() + number() + blanks() + "]";
        }
    }

    private String spread() {
        String middle = pick(SIGNS) + decimal();
        String radius = pick(new String[] {"", "?", digits(1 + random.nextInt(3)), digits(1 + length() / 2)});
        return middle + "?" + radius + pick(new String[] {"", "", "u", "d"}) + exponent('e', 3, 330);
    }

    /** Two numbers that are the same or all but the same, told in two ways. */
    private String near() {
        double value = value();
        if (Double.isInfinite(value)) {
            value = 1;
        }
        String exact = new java.math.BigDecimal(value).toPlainString();
        String point = exact.contains(".") ? "" : ".";
        String more = random.nextInt(3) == 0 ? point + "0".repeat(random.nextInt(9)) + "1" : "";
        String other = Double.toHexString(value);
        if (exact.length() > 330) {
            return "[" + other + "]";
        }
        return random.nextBoolean() ? "[" + exact + more + "," + other + "]" : "[" + other + "," + exact + more + "]";
    }

    private String number() {
        switch (random.nextInt(8)) {
            case 0: return pick(SIGNS) + "0x" + digits16() + exponent('p', 4, 1100);
            case 1: return pick(SIGNS) + digits(1 + random.nextInt(12)) + "/" + digits(1 + random.nextInt(12));
            case 2: return pick(SIGNS) + digits(length()) + "/" + digits(length());
            case 3: return "" + (random.nextInt(21) - 10);
            case 4: return Double.toHexString(value());
            case 5: return Double.toString(value());
            default: return pick(SIGNS) + decimal() + exponent('e', 3, 330);
        }
    }

    private int length() {
        return random.nextInt(6) == 0 ? random.nextInt(190) : 1 + random.nextInt(20);
    }

    private String decimal() {
        switch (random.nextInt(4)) {
            case 0: return digits(length());
            case 1: return "." + digits(length());
            case 2: return digits(length()) + ".";
            default: return digits(length()) + "." + digits(length());
        }
    }

    private String digits16() {
        StringBuilder row = new StringBuilder();
        int count = length();
        int point = random.nextInt(count + 2);
        for (int i = 0; i < count; i++) {
            row.append(i == point ? "." : "").append(Character.forDigit(random.nextInt(16), 16));
        }
        return row.toString();
    }

    private String digits(int count) {
        StringBuilder row = new StringBuilder();
        int kind = random.nextInt(5);
        for (int i = 0; i < count; i++) {
            row.append(kind == 0 ? 0 : kind == 1 ? 9 : random.nextInt(10));
        }
        return kind == 0 && random.nextBoolean() ? row.append("1").toString() : row.toString();
    }

    private String exponent(char letter, int most, int usual) {
        if (letter == 'e' && random.nextInt(3) == 0) {
            return "";
        }
        int range = random.nextInt(4) == 0 ? (int) Math.pow(10, most) : random.nextBoolean() ? 10 : usual;
        String zeros = random.nextInt(10) == 0 ? "0" : "";
        return letter + pick(SIGNS) + zeros + random.nextInt(range);
    }

    private String spoiled(String text) {
        StringBuilder row = new StringBuilder(text);
        int place = random.nextInt(row.length() + 1);
        char letter = LETTERS.charAt(random.nextInt(LETTERS.length()));
        switch (random.nextInt(3)) {
            case 0: row.insert(place, letter); break;
            case 1: row.setLength(Math.min(place, row.length())); break;
            default: if (place < row.length()) row.setCharAt(place, letter); break;
        }
        return row.toString();
    }

    private String blanks() {
        return pick(new String[] {"", "", "", " ", "\t", " \t "});
    }

    private String pick(String[] rows) {
        return rows[random.nextInt(rows.length)];
    }
}
