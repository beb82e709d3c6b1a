/** Each sentence of promise 3, and of the texts and marks it leans on, that names a boundary case. */
public final class BoundariesOfTextsTest {
    private static final double INF = Double.POSITIVE_INFINITY, MAX = Double.MAX_VALUE, MIN = Double.MIN_VALUE;
    private static final String[] MARKS = {"_ill", "_trv", "_def", "_dac", "_com"};
    private static final String[] SAMPLES = {"[]", "[ empty]", "[entire ]", "[,]", "[nai]", "[1]", "[-1.5e2,.5E+3]_com",
        "[0x1.8p-1 , 0XAp+2]", "[1/3,22/7]_dac", "[-inf,+inf]", "[ -infinity,2]_def", "[1, infinity]_trv", "1?",
        "-1.5?", "2?3ue1", "+.5??d_trv", "10??_dac", "3.?12de-2_com"};

    private final Check check = new Check();

    public static void main(String[] args) {
        BoundariesOfTextsTest test = new BoundariesOfTextsTest();
        test.usedUp();
        test.casesAndBlanks();
        test.everyByte();
        test.emptyAndEntireAndIll();
        test.missingAndInfinite();
        test.decimals();
        test.base16();
        test.fractions();
        test.spreads();
        test.firstAboveSecond();
        test.marksThatMayNotBe();
        test.strongestMark();
        test.unboundedByRounding();
        test.check.end("boundaries of promise 3");
    }

    private void usedUp() {
        check.sentence("3", "Reads the tape's text, which is used up: its mark, 0 if it is ill.");
        for (String text : new String[] {"", " ", "[1]", "[1", "[]", "[nai]", "[1]" + " ".repeat(397),
            "x".repeat(400)}) {
            IntervalText x = new IntervalText();
            Check.feed(x, text);
            check.due("read of '" + text + "'", x.read(), new Oracle(text).mark);
            check.due("back behind it", x.back(), 0);
            check.due("read of nothing", x.read(), Check.ILL);
            check.due("feed of 400 behind it", Check.feed(x, " ".repeat(397) + "[2]"), 400);
            check.due("read of that", x.read(), Check.COM);
            check.due("low of that", x.low(), Check.bits(2));
        }
    }

    private void casesAndBlanks() {
        check.sentence("3", "Upper and lower case are the same, blanks (32, 9) may stand at both ends, behind [ and "
            + "before ], and around a comma.");
        String[] right = {"[ENTIRE]", "[Entire]", "[eNTIRE]_DAC", "[-INF,INF]_Dac", "[-Infinity,+iNFINITY]_dAC",
            "1??_DAC"};
        for (String text : right) {
            check.reads(text, Check.DAC, -INF, INF);
        }
        check.reads("[0XFP+1,0XfFp0]_COM", Check.COM, 30.0, 255.0);
        check.reads("[1E1,1e1]_Com", Check.COM, 10.0, 10.0);
        check.reads("1?U", Check.COM, 1.0, 1.5);
        check.reads("1?DE1", Check.COM, 5.0, 10.0);
        // A blank at each place of these: right where the document lets one stand, and ill at all others.
        blankAtEachPlace("|[|12|,|345|]_com|");
        blankAtEachPlace("|[|-1.5e2|]|");
        blankAtEachPlace("|[|0x1.8p-1|,|4/3|]_def|");
        blankAtEachPlace("|[|-inf|,|+inf|]_trv|");
        blankAtEachPlace("|[|,|]|");
        blankAtEachPlace("|[|1|,|]|");
        blankAtEachPlace("|[|,|1|]|");
        blankAtEachPlace("|[|]|");
        blankAtEachPlace("|[|empty|]_trv|");
        blankAtEachPlace("|[|entire|]|");
        blankAtEachPlace("|-1.5?2ue-1_dac|");
        blankAtEachPlace("|1??|");
        check.reads(" \t ".repeat(60) + "[" + "\t ".repeat(50) + "2 ]" + "\t".repeat(117), Check.COM, 2.0, 2.0);
    }

    /** There is a | wherever blanks may stand. */
    private void blankAtEachPlace(String places) {
        String whole = places.replace("|", "");
        Oracle due = new Oracle(whole);
        check.reads(whole, due.mark, due.low, due.high);
        int at = 0;
        for (int i = 0; i <= whole.length(); i++) {
            boolean mayStand = at < places.length() && places.charAt(at) == '|';
            for (String blank : new String[] {" ", "\t", "  ", " \t \t"}) {
                String spread = whole.substring(0, i) + blank + whole.substring(i);
                if (mayStand) {
                    check.reads(spread, due.mark, due.low, due.high);
                } else {
                    check.isIll(spread);
                }
            }
            for (String other : new String[] {"\n", "\r", "\f", "\u000b", "\0", "\u00a0", "\u0085"}) {
                check.isIll(whole.substring(0, i) + other + whole.substring(i));
            }
            at += mayStand ? 2 : 1;
        }
    }

    private void everyByte() {
        check.sentence("3", "A text that is otherwise .. is ILL.");
        for (String text : SAMPLES) {
            for (int i = 0; i <= text.length(); i++) {
                for (char one = 0; one < 256; one++) {
                    check.readsAsDue(text.substring(0, i) + one + text.substring(i));
                    check.readsAsDue(text.substring(0, i) + one + text.substring(Math.min(i + 1, text.length())));
                }
                check.readsAsDue(text.substring(0, i));
                check.readsAsDue(text.substring(i));
                check.readsAsDue(text.substring(0, i) + text.substring(Math.min(i + 1, text.length())));
                check.readsAsDue(text + text.substring(i));
            }
        }
    }

    private void emptyAndEntireAndIll() {
        check.sentence("3, 4 and 5", "[ ] (also without a blank) and [empty]: the empty one");
        for (String text : new String[] {"[]", "[ ]", "[\t]", "[" + " ".repeat(398) + "]", "[empty]", "[ empty\t]"}) {
            check.isEmpty(text);
        }
        check.sentence("3, 4 and 5", "[entire] and [,]: entire");
        for (String text : new String[] {"[entire]", "[ entire ]", "[,]", "[ ,]", "[, ]", "[\t,\t]"}) {
            check.reads(text, Check.DAC, -INF, INF);
        }
        check.sentence("3", "[nai]: ill, without a mark (blanks may stand behind [ and before ] in these, too)");
        for (String text : new String[] {"[nai]", "[ nai ]", "[NAI]", "[nai]_ill", "[nai]_trv", "[nai]_def",
            "[nai]_dac", "[nai]_com", "[nai,]", "[,nai]"}) {
            check.isIll(text);
        }
    }

    private void missingAndInfinite() {
        check.sentence("3, 4 and 5", "either of which may be missing (then the interval is unbounded there)");
        check.reads("[1,]", Check.DAC, 1.0, INF);
        check.reads("[,1]", Check.DAC, -INF, 1.0);
        check.reads("[0.1 , ]", Check.DAC, Math.nextDown(0.1), INF);
        check.reads("[ , 0.3]", Check.DAC, -INF, Math.nextUp(0.3));
        check.reads("[-1e999,]", Check.DAC, -INF, INF);
        check.reads("[1e999,]", Check.DAC, MAX, INF);
        check.reads("[,-1e999]", Check.DAC, -INF, -MAX);
        check.sentence("3, 4 and 5", "the first one may be -inf, the second one inf or +inf (and infinity for inf)");
        for (String inf : new String[] {"inf", "infinity"}) {
            check.reads("[-" + inf + ",1]", Check.DAC, -INF, 1.0);
            check.reads("[1," + inf + "]", Check.DAC, 1.0, INF);
            check.reads("[1,+" + inf + "]", Check.DAC, 1.0, INF);
            check.reads("[-" + inf + ",]", Check.DAC, -INF, INF);
            check.reads("[,+" + inf + "]", Check.DAC, -INF, INF);
            for (String wrong : new String[] {"[?,1]", "[+?,1]", "[?,]", "[+?,]", "[?,?]", "[+?,+?]", "[1,-?]", "[,-?]",
                "[-?,-?]", "[?]", "[-?]", "[+?]", "[-?,1", "[--?,1]", "[1,++?]", "[1,+-?]", "[-?e1,1]", "[1,?e1]"}) {
                check.isIll(wrong.replace("?", inf));
            }
        }
        check.isIll("[1,infinit]");
        check.isIll("[-infin,1]");
    }

    private void decimals() {
        check.sentence("3, 4 and 5", "a row of digits with perhaps one point (a digit at least), perhaps followed by "
            + "e, an optional sign and 1 to 3 digits");
        for (String text : new String[] {"2", "2.", "02", "+2", "2.0", "2e0", "2.e+0", "2e-0", "2e00", "2e000",
            "+2.0e-000", ".2e1", ".2e01", ".2e+001", "20e-1", "20.e-01", "200e-002", ".0002e4"}) {
            check.reads("[" + text + "]", Check.COM, 2.0, 2.0);
            check.reads("[-" + text.replace("+2", "2") + "]", Check.COM, -2.0, -2.0);
        }
        for (String text : new String[] {".", "+", "-", "+.", "-.", "e1", ".e1", "-e1", "2e", "2e+", "2e-", "2e0000",
            "2e1000", "2e+0000", "2e-0001", "2..", "2.0.", ".2.", "2e1.", "2e.1", "2e1e1", "++2", "--2", "+-2", "2+",
            "2e++1", "2e--1", "2,0,0", "2a", "0b1", "2f", "2d"}) {
            check.isIll("[" + text + ",3]");
            check.isIll("[-3," + text + "]");
            check.isIll("[" + text + "]");
        }
        check.reads("[1e-999,1e999]", Check.DAC, 0.0, INF);
        check.reads("[1e-999]", Check.COM, 0.0, MIN);
        check.reads("[1e999]", Check.DAC, MAX, INF);
        check.reads("[" + "0".repeat(393) + "1e0]", Check.COM, 1.0, 1.0);
        check.reads("[1." + "0".repeat(396) + "]", Check.COM, 1.0, 1.0);
    }

    private void base16() {
        check.sentence("3, 4 and 5", "0x, a row of digits of base 16 with perhaps one point (a digit at least), p, an "
            + "optional sign and 1 to 4 digits (a power of 2)");
        for (String text : new String[] {"0xap0", "0xAP00", "0x0a.p000", "0xa.0p0000", "0x.ap4", "0x.ap+04", "0x5p1",
            "0x14p-1", "0x140p-0005", "0x.05p+0009"}) {
            check.reads("[" + text + "]", Check.COM, 10.0, 10.0);
            check.reads("[+" + text + "]", Check.COM, 10.0, 10.0);
            check.reads("[-" + text + "]", Check.COM, -10.0, -10.0);
        }
        check.reads("[0x0123456789abcdefp0,0XFEDCBA9876543210P0]", Check.COM, 0x0.123456789abcdep60,
            0x1.fdb97530eca87p63);
        for (String text : new String[] {"0x", "0xp1", "0x.p1", "0x1", "0x1.", "0x1p", "0x1p+", "0x1p-", "0x1p00000",
            "0x1p10000", "0x1p-00001", "0x1..p1", "0x1.1.p1", "0xgp1", "0x1gp1", "x1p1", "00x1p1", "0x0x1p1", "0x+1p1",
            "0x-1p1", "0x1p1.", "0x1p1a", "0x1pa", "0x1p1p1", "0x1e1", "1p1", "ap1", "0x1/3"}) {
            check.isIll("[" + text + "]");
            check.isIll("[-" + text + ",99]");
        }
        check.reads("[0x1p-9999,0x1p9999]", Check.DAC, 0.0, INF);
        check.reads("[0x" + "f".repeat(391) + "p0]", Check.DAC, MAX, INF);
        check.reads("[0x1" + "0".repeat(388) + "p-1552]", Check.COM, 1.0, 1.0);
    }

    private void fractions() {
        check.sentence("3, 4 and 5", "the sign, digits, /, digits that are not all 0, without blanks");
        for (String text : new String[] {"6/3", "2/1", "06/03", "20/10", "+2/0001"}) {
            check.reads("[" + text + "]", Check.COM, 2.0, 2.0);
        }
        check.reads("[-6/3]", Check.COM, -2.0, -2.0);
        check.reads("[0/3]", Check.COM, 0L, 0L);
        check.reads("[1/" + "0".repeat(395) + "1]", Check.COM, 1.0, 1.0);
        check.reads("[1/" + "0".repeat(100) + "2]", Check.COM, 0.5, 0.5);
        for (String text : new String[] {"1/0", "0/0", "1/00", "1/" + "0".repeat(396), "-1/0", "1/", "/1", "/", "-/1",
            "1//2", "1/2/3", "1/-2", "1/+2", "1 /2", "1/ 2", "1./2", "1.0/2", "1/2.", "1/.2", "1/2e1", "1e1/2",
            "1/0x2", "0x1/2", "1/a"}) {
            check.isIll("[" + text + "]");
        }
    }

    private void spreads() {
        check.sentence("3, 4 and 5", "M ? R V X: a number M, an optional sign and digits with perhaps one point (a "
            + "digit at least)");
        check.reads("1?", Check.COM, 0.5, 1.5);
        check.reads("+1.?", Check.COM, 0.5, 1.5);
        check.reads("-5.?", Check.COM, -5.5, -4.5);
        check.reads("-.5?5", Check.COM, Check.bits(-1), 0L);
        for (String text : new String[] {"?", "+?", "-?", ".?", "+.?", "1..?", "1e1?", "1/2?", "0x1p1?", "inf?", "[1]?",
            "1 ?", "??", "1", "1.5", "1u", "1.5d"}) {
            check.isIll(text);
        }
        check.sentence("3, 4 and 5", "R, nothing (a half), digits, or another ?; V, nothing, u or d; X, nothing, or "
            + "e, an optional sign and 1 to 3 digits");
        check.reads("4?0", Check.COM, 4.0, 4.0);
        check.reads("4?000", Check.COM, 4.0, 4.0);
        check.reads("4?01", Check.COM, 3.0, 5.0);
        check.reads("4?0u", Check.COM, 4.0, 4.0);
        check.reads("4?2e000", Check.COM, 2.0, 6.0);
        check.reads("4?2e+1", Check.COM, 20.0, 60.0);
        check.reads("400?200e-002", Check.COM, 2.0, 6.0);
        for (String text : new String[] {"4?2?", "4???", "4??2", "4?+2", "4?-2", "4?.5", "4?2.", "4?2ud", "4?uu", "4?x",
            "4?u2", "4?e", "4?e+", "4?2e0000", "4?2e1234", "4?2e1u", "4??e", "4?2p1", "4?2e1.5"}) {
            check.isIll(text);
        }
        check.sentence("4 and 5", "With U one unit of M's last digit, it is from M - R U to M + R U (for ? ?: "
            + "infinitely far); with u only upward, with d only downward; all times 10 to the power of X.");
        check.reads("8.00?25", Check.COM, 7.75, 8.25);
        check.reads("8.00?25u", Check.COM, 8.0, 8.25);
        check.reads("8.00?25d", Check.COM, 7.75, 8.0);
        check.reads("-8.00?25u", Check.COM, -8.0, -7.75);
        check.reads("-8.00?25d", Check.COM, -8.25, -8.0);
        check.reads("8.00?25e2", Check.COM, 775.0, 825.0);
        check.reads("80?u", Check.COM, 80.0, 80.5);
        check.reads("80?de1", Check.COM, 795.0, 800.0);
        check.reads("8??", Check.DAC, -INF, INF);
        check.reads("8??u", Check.DAC, 8.0, INF);
        check.reads("-8??d", Check.DAC, -INF, -8.0);
        check.reads("8??ue2", Check.DAC, 800.0, INF);
        check.reads("8??de-999", Check.DAC, -INF, MIN);
        check.reads("8??ue999", Check.DAC, MAX, INF);
        // R U from just below M's size to just above it: the lower end goes through 0.
        check.reads("5?4", Check.COM, 1.0, 9.0);
        check.reads("5?5", Check.COM, 0L, Check.bits(10));
        check.reads("5?6", Check.COM, -1.0, 11.0);
        check.reads("-5?4", Check.COM, -9.0, -1.0);
        check.reads("-5?5", Check.COM, Check.bits(-10), 0L);
        check.reads("-5?6", Check.COM, -11.0, 1.0);
        check.reads("0?", Check.COM, -0.5, 0.5);
    }

    private void firstAboveSecond() {
        check.sentence("3", "whose first number is above the second one .. is ILL");
        String[][] pairs = {{"1", "1.0000000000000000000000000000001"}, {"-1", "1"}, {"0", "1e-999"},
            {"-1e-999", "0"}, {"0x1p-9999", "0x1p-9998"}, {"1e998", "1e999"},
            {"1/3", "0.33333333333333333333333333333333334"}, {"0.33333333333333333333333333333333333", "1/3"},
            {"0x0.1999999999999p0", "0.1"}, {"0.1", "0x0.199999999999ap0"}, {"-2", "-1"}, {"-1e999", "-1e998"},
            {"1e999", "0x1p9999"}, {"1/2", "2/3"}, {"99/100", "100/101"}, {"0x1p-9999", "1e-999"},
            {"-1e-998", "-1e-999"}, {"9e307", "2e308"}, {"2e308", "3e308"}, {"4e-324", "5e-324"},
            {"1e-400", "2e-400"}};
        for (String[] pair : pairs) {
            Oracle due = new Oracle("[" + pair[0] + "," + pair[1] + "]");
            check.due("a right text", due.mark > 0 ? 1 : 0, 1);
            check.reads("[" + pair[0] + "," + pair[1] + "]", due.mark, due.low, due.high);
            check.isIll("[" + pair[1] + "," + pair[0] + "]");
            check.isIll("[" + pair[1] + "," + pair[0] + "]_trv");
            for (String one : pair) {
                Oracle alone = new Oracle("[" + one + "]");
                check.reads("[" + one + "," + one + "]", alone.mark, alone.low, alone.high);
            }
        }
        check.reads("[0.5,1/2]", Check.COM, 0.5, 0.5);
        check.reads("[1/2,0x1p-1]", Check.COM, 0.5, 0.5);
        check.reads("[0x10p-5,5e-1]", Check.COM, 0.5, 0.5);
        check.reads("[0,-0]", Check.COM, 0L, 0L);
    }

    private void marksThatMayNotBe() {
        check.sentence("3", "It may not be: ill behind anything, com, dac, def behind the empty one; com behind one "
            + "that is told as unbounded.");
        String[] empties = {"[]", "[ ]", "[empty]"};
        String[] unbounded = {"[entire]", "[,]", "[1,]", "[,1]", "[-inf,1]", "[1,inf]", "[1,+infinity]", "[-inf,inf]",
            "[-inf,]", "[,inf]", "1??", "1??u", "1??d", "[1e999,]", "[,-1e999]", "1??ue999"};
        String[] bounded = {"[1]", "[1,2]", "[0]", "1?", "1?0", "[0x1p0,3/2]", "[1e999]", "[-1e999,1e999]", "1?e999"};
        tryMarks(empties, Check.TRV);
        tryMarks(unbounded, Check.DAC);
        tryMarks(bounded, Check.COM);
        for (String wrong : new String[] {"_", "_c", "_co", "_comm", "_tr", "_com_com", "com", "__com", "_none", "_0",
            "_4", "_\0com", "_com\0"}) {
            check.isIll("[1,2]" + wrong);
            check.isIll("[]" + wrong);
            check.isIll("1?" + wrong);
        }
    }

    private void tryMarks(String[] texts, int strongest) {
        for (String text : texts) {
            Oracle bare = new Oracle(text);
            for (int mark = 0; mark <= 4; mark++) {
                if (mark == 0 || mark > strongest) {
                    check.isIll(text + MARKS[mark]);
                } else {
                    check.reads(text + MARKS[mark], Math.min(mark, bare.mark), bare.low, bare.high);
                }
            }
        }
    }

    private void strongestMark() {
        check.sentence("3", "Without a mark it has the strongest one. / COM if it is not empty and bounded, DAC if "
            + "it is unbounded, TRV if it is empty");
        check.isEmpty("[]");
        check.reads("[0]", Check.COM, 0L, 0L);
        check.reads("[-0x1.fffffffffffffp1023,0x1.fffffffffffffp1023]", Check.COM, -MAX, MAX);
        check.reads("[-0x1.fffffffffffffp1023,]", Check.DAC, -MAX, INF);
        check.reads("[,0x1.fffffffffffffp1023]", Check.DAC, -INF, MAX);
        check.reads("[,]", Check.DAC, -INF, INF);
        check.reads("[1,1e999]", Check.DAC, 1.0, INF);
    }

    private void unboundedByRounding() {
        check.sentence("3", "A com whose interval came to be unbounded by rounding becomes DAC.");
        String above = "0x1.fffffffffffff00001p1023";
        String largest = "0x1.fffffffffffffp1023";
        check.reads("[0," + largest + "]_com", Check.COM, 0.0, MAX);
        check.reads("[-" + largest + ",0]_com", Check.COM, -MAX, 0.0);
        for (int mark = 1; mark <= 4; mark++) {
            int due = Math.min(mark, Check.DAC);
            check.reads("[0," + above + "]" + MARKS[mark], due, 0.0, INF);
            check.reads("[-" + above + ",0]" + MARKS[mark], due, -INF, 0.0);
            check.reads("[" + above + "]" + MARKS[mark], due, MAX, INF);
            check.reads("[-" + above + "," + above + "]" + MARKS[mark], due, -INF, INF);
            check.reads("1?1e309" + MARKS[mark], due, 0.0, INF);
            check.reads("-1?1e309" + MARKS[mark], due, -INF, 0.0);
            check.reads("0?1e309" + MARKS[mark], due, -INF, INF);
            check.reads("1?0e309" + MARKS[mark], due, MAX, INF);
        }
        // Rounding to 0 is none of it.
        check.reads("[1e-999]_com", Check.COM, 0.0, MIN);
    }
}
