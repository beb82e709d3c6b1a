import java.math.BigDecimal;
import java.math.BigInteger;
import java.math.MathContext;
import java.math.RoundingMode;
import java.util.regex.Matcher;
import java.util.regex.Pattern;

/** The document once more, by the library's own long numbers and patterns: slow, and built otherwise. */
final class Oracle {
    private static final String B = "[ \\t]*";
    private static final String DECIMAL = "(?:\\d+\\.?\\d*|\\.\\d+)";
    private static final String EXPONENT = "(?:e[+-]?\\d{1,3})";
    private static final String BASE16 = "0x(?:[0-9a-f]+\\.?[0-9a-f]*|\\.[0-9a-f]+)p[+-]?\\d{1,4}";
    private static final String NUMBER = "[+-]?(?:" + BASE16 + "|\\d+/0*[1-9]\\d*|" + DECIMAL + EXPONENT + "?)";
    private static final String MARK = "(?:_(com|dac|def|trv))?";
    private static final Pattern EMPTY = Pattern.compile("\\[" + B + "(?:empty)?" + B + "\\]" + MARK);
    private static final Pattern ENTIRE = Pattern.compile("\\[" + B + "entire" + B + "\\]" + MARK);
    private static final Pattern ONE = Pattern.compile("\\[" + B + "(" + NUMBER + ")" + B + "\\]" + MARK);
    private static final Pattern TWO = Pattern.compile("\\[" + B + "(" + NUMBER + "|-inf(?:inity)?|)" + B + "," + B
        + "(" + NUMBER + "|\\+?inf(?:inity)?|)" + B + "\\]" + MARK);
    private static final Pattern SPREAD = Pattern.compile("([+-]?" + DECIMAL + ")\\?(\\d*|\\?)([ud]?)("
        + EXPONENT + "?)" + MARK);

    int mark;
    long low, high;

    /** A numerator over a denominator above 0. */
    private static final class Fraction {
        final BigInteger top, bottom;

        Fraction(BigInteger top, BigInteger bottom) {
            this.top = top;
            this.bottom = bottom;
        }

        static Fraction of(BigDecimal value) {
            return value.scale() >= 0 ? new Fraction(value.unscaledValue(), BigInteger.TEN.pow(value.scale()))
                : new Fraction(value.toBigIntegerExact(), BigInteger.ONE);
        }

        int compare(Fraction other) {
            return top.multiply(other.bottom).compareTo(other.top.multiply(bottom));
        }
    }

    Oracle(String raw) {
        String text = raw.replaceAll("^[ \\t]+|[ \\t]+$", "").toLowerCase(java.util.Locale.ROOT);
        ill();
        if (raw.chars().anyMatch(c -> c > 127)) {
            return;
        }
        Matcher m;
        if ((m = EMPTY.matcher(text)).matches()) {
            mark(m.group(1), 1);
            low = Check.INF;
            high = Check.MINUS_INF;
        } else if ((m = ENTIRE.matcher(text)).matches()) {
            tell(null, null, m.group(1));
        } else if ((m = ONE.matcher(text)).matches()) {
            tell(number(m.group(1)), number(m.group(1)), m.group(2));
        } else if ((m = TWO.matcher(text)).matches()) {
            tell(number(m.group(1)), number(m.group(2)), m.group(3));
        } else if ((m = SPREAD.matcher(text)).matches()) {
            spread(m);
        }
        if (mark == 0) {
            ill();
        }
    }

    private void ill() {
        mark = 0;
        low = Check.NAN;
        high = Check.NAN;
    }

    private void mark(String name, int strongest) {
        mark = name == null ? strongest : name.equals("com") ? 4 : name.equals("dac") ? 3 : name.equals("def") ? 2 : 1;
        if (mark > strongest) {
            mark = 0;
        }
    }

    /** Null for an end that is told as infinite. */
    private void tell(Fraction first, Fraction second, String name) {
        mark(name, first == null || second == null ? 3 : 4);
        if (first != null && second != null && first.compare(second) > 0) {
            mark = 0;
        }
        double a = first == null ? Double.NEGATIVE_INFINITY : rounded(first, false);
        double b = second == null ? Double.POSITIVE_INFINITY : rounded(second, true);
        low = Check.bits(a + 0.0);
        high = Check.bits(b + 0.0);
        if (mark == 4 && (Double.isInfinite(a) || Double.isInfinite(b))) {
            mark = 3;
        }
    }

    private void spread(Matcher m) {
        BigDecimal middle = new BigDecimal(m.group(1));
        int exponent = m.group(4).isEmpty() ? 0 : Integer.parseInt(m.group(4).substring(1));
        boolean isUp = m.group(3).equals("u");
        boolean isDown = m.group(3).equals("d");
        BigDecimal least = null;
        BigDecimal greatest = null;
        if (!m.group(2).equals("?")) {
            BigDecimal radius = m.group(2).isEmpty() ? new BigDecimal("0.5") : new BigDecimal(m.group(2));
            radius = radius.scaleByPowerOfTen(-middle.scale());
            least = middle.subtract(radius);
            greatest = middle.add(radius);
        }
        least = isUp ? middle : least;
        greatest = isDown ? middle : greatest;
        tell(least == null ? null : Fraction.of(least.scaleByPowerOfTen(exponent)),
            greatest == null ? null : Fraction.of(greatest.scaleByPowerOfTen(exponent)), m.group(5));
    }

    private static Fraction number(String text) {
        if (text.isEmpty() || text.contains("inf")) {
            return null;
        }
        if (text.contains("/")) {
            String[] parts = text.split("/");
            return new Fraction(new BigInteger(parts[0]), new BigInteger(parts[1]));
        }
        if (!text.contains("x")) {
            return Fraction.of(new BigDecimal(text));
        }
        String[] parts = text.replaceFirst("^[+-]?0x", "").split("p");
        int point = parts[0].indexOf('.');
        int power = Integer.parseInt(parts[1]) - (point < 0 ? 0 : 4 * (parts[0].length() - point - 1));
        BigInteger top = new BigInteger(parts[0].replace(".", ""), 16);
        top = text.startsWith("-") ? top.negate() : top;
        return power >= 0 ? new Fraction(top.shiftLeft(power), BigInteger.ONE)
            : new Fraction(top, BigInteger.ONE.shiftLeft(-power));
    }

    private static double rounded(Fraction value, boolean isUp) {
        double near = new BigDecimal(value.top).divide(new BigDecimal(value.bottom), new MathContext(30)).doubleValue();
        near = isUp ? Math.nextUp(Math.nextUp(near)) : Math.nextDown(Math.nextDown(near));
        // From outside inward, as long as the next float still encloses the value.
        for (int i = 0; i < 6; i++) {
            double next = isUp ? Math.nextDown(near) : Math.nextUp(near);
            if (Double.isInfinite(next)) {
                return near;
            }
            int order = Fraction.of(new BigDecimal(next)).compare(value);
            if (isUp ? order < 0 : order > 0) {
                return near;
            }
            near = next;
        }
        throw new IllegalStateException("the guess was not near");
    }

    /** What is to be written of right ends with a mark from 1 on. */
    static String written(double low, double high, int mark, int digits) {
        boolean isUnbounded = Double.isInfinite(low) || Double.isInfinite(high);
        String name = new String[] {"_trv", "_def", "_dac", "_com"}[isUnbounded ? Math.min(mark, 3) - 1 : mark - 1];
        if (Double.isInfinite(low) && Double.isInfinite(high)) {
            return "[entire]" + name;
        }
        String a = end(low, digits, RoundingMode.FLOOR);
        String b = end(high, digits, RoundingMode.CEILING);
        return a.equals(b) ? "[" + a + "]" + name : "[" + a + "," + b + "]" + name;
    }

    private static String end(double value, int digits, RoundingMode mode) {
        if (Double.isInfinite(value)) {
            return value < 0 ? "-inf" : "inf";
        }
        if (value == 0) {
            return "0";
        }
        if (digits == 0) {
            long bits = Double.doubleToRawLongBits(value);
            int e = Math.max(Math.getExponent(value), -1022);
            return String.format("%s0x%d.%013xp%d", value < 0 ? "-" : "", Math.abs(value) < 0x1p-1022 ? 0 : 1,
                bits & 0xfffffffffffffL, e);
        }
        BigDecimal round = new BigDecimal(value).round(new MathContext(digits, mode));
        String row = round.unscaledValue().abs().toString();
        int exponent = row.length() - 1 - round.scale();
        row = row + "0".repeat(Math.max(0, digits - row.length()));
        row = row.substring(0, digits);
        return (value < 0 ? "-" : "") + row.charAt(0) + (digits > 1 ? "." + row.substring(1) : "") + "e" + exponent;
    }
}
