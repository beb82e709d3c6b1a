/** Promise 3: read; which texts are right, and their marks. */
public final class Promise3ReadTest {
    private static final String[] ILL = {
        "", " ", "\t", "[", "]", "[]]", "[[]]", "[ ] ]", "[1", "1]", "1", "1,2", "-", "?", "[-]", "[+,1]", "[.]",
        "[.,1]", "[e5]", "[.e5]", "[1e]", "[1e+]", "[1e-,2]", "[1e1234]", "[1e0001]", "[1ea]", "[1e1a]", "[0x1pa]",
        "[0x1p1f]", "1?ea", "1?a", "[1e1.5]", "[1.2.3]", "[1..2]",
        "[--1]", "[+-1]", "[- 1]", "[1 2]", "[1;2]", "[1,2,3]", "[,,]", "[,1,]", "[1,2", "[1,", "[,", "[1\n]", "\n[1]",
        "[1]\0", "\0[1]", "[1\u00a0]", "[nan]", "[x]", "[0x1]", "[0x1p]", "[0xp1]", "[0x.p1]", "[0x]", "[0x1p+]",
        "[0x1p12345]", "[0x1p00001]", "[0x1.2.3p1]", "[0x1gp1]", "[0x-1p1]", "[0x1e5]", "[00x1p1]", "[x1p1]",
        "[1p1]", "[ap1]", "[1/0]", "[1/000]", "[1/]", "[/3]", "[1./3]", "[1.0/3]", "[1/3.0]", "[1/3.]", "[1/-3]",
        "[1/+3]", "[1 /3]", "[1/ 3]", "[1/3e1]", "[1e1/3]", "[1/2/3]", "[0x1/3]", "[1/0x3]", "[-/3]",
        "[inf]", "[-inf]", "[+inf]", "[infinity]", "[inf,1]", "[+inf,]", "[1,-inf]", "[-inf,-inf]", "[inf,inf]",
        "[-inf", "[-infi,1]", "[-infinit,1]", "[-infinityy,1]", "[- inf,1]", "[1,+ inf]", "[1,infi]", "[1,++inf]",
        "[emptyy]", "[empt]", "[emp ty]", "[empty,]", "[,empty]", "[empty,1]", "[entire,]", "[entir]", "empty",
        "entire", "nai", "[nai]", "[ nai ]", "[NaI]", "[nai]_ill", "[nai]_trv", "[nai]_com", "[1,nai]",
        "[1,2]_", "[1,2]_co", "[1,2]_comm", "[1,2]_com_com", "[1,2]com", "[1,2] _com", "[1,2]_ com", "[1,2]__com",
        "[1,2]_ill", "[1,2]_ILL", "[1,2]_xyz", "[1,2]_c om", "[1,2]_4", "_com", " _com", "[1,2]-com",
        "[empty]_com", "[empty]_dac", "[empty]_def", "[empty]_ill", "[]_com", "[ ]_dac", "[]_def", "[]_",
        "[entire]_com", "[,]_com", "[ , ]_com", "[entire]_ill", "[1,]_com", "[,1]_com", "[-inf,1]_com",
        "[1,inf]_com", "[1,+infinity]_com", "[-inf,inf]_com", "1??_com", "1??u_com", "1??d_com", "1?_ill",
        "[2,1]", "[2,1]_trv", "[-1,-2]", "[1,-1]", "[0,-1e-999]", "[1e-999,0]", "[1e999,1e998]",
        "[0x1p9999,0x1p9998]", "[0x1p-9997,0x1p-9998]_com", "[1/3,0.333333333333]",
        "[0.1,0x0.1999999999999p0]", "[0x1p9999,1e999]", "[1e-999,0x1p-9999]", "[-1e-999,-1e-998]",
        "[1/3,333333333333333333333333333333/1000000000000000000000000000000]",
        "?1", ".?", "-?", "1 ?", "1? 2", "1?2 u", "1?2u e1", "1??? ", "1???", "1?2?", "1??2", "1?ud", "1?du", "1?uu",
        "1?eu", "1?e1u", "1?e", "1?e+", "1?e1234", "1?e1.0", "1?1.0", "1?.5", "1?+1", "1?-1", "1e1?", "1e1?2",
        "0x1?", "0x1p1?", "1/3?", "[1?]", "[1?2,3]", "[1?2", "1?2]", "1?,2?", "1?_", "1?x", "1?2_com ]", "1.2.3?",
        "inf?", "--1?", "1?u_co", "1? _com",
    };

    public static void main(String[] args) {
        Check check = new Check();
        for (String text : ILL) {
            check.isIll(text);
        }
        empties(check);
        entires(check);
        marks(check);
        blanksAndCases(check);
        isUsedUp(check);
        check.end("promise 3");
    }

    private static void empties(Check check) {
        String[] texts = {"[]", "[ ]", "[\t \t]", "[empty]", "[ empty ]", "[\tEMPTY]", " [Empty] ", "[]_trv",
            "[ ]_TRV", "[empty]_trv", " [ empty]_Trv\t"};
        for (String text : texts) {
            check.isEmpty(text);
        }
    }

    private static void entires(Check check) {
        String[] texts = {"[entire]", "[ ENTIRE ]", "[,]", "[ , ]", "[\t,\t]", "[-inf,inf]", "[-inf,+inf]",
            "[-Infinity,+INFINITY]", "[-infinity , infinity]", "[-inf,]", "[ ,inf]", "[,+infinity]", "1??", "-.5??e3"};
        for (String text : texts) {
            check.reads(text, Check.DAC, Check.MINUS_INF, Check.INF);
            check.reads(text + "_dac", Check.DAC, Check.MINUS_INF, Check.INF);
            check.reads(text + "_DEF", Check.DEF, Check.MINUS_INF, Check.INF);
            check.reads(text + "_trv ", Check.TRV, Check.MINUS_INF, Check.INF);
            check.isIll(text + "_com");
        }
    }

    private static void marks(Check check) {
        String[] names = {"", "_trv", "_def", "_dac", "_com"};
        for (int mark = 1; mark <= 4; mark++) {
            check.reads("[1,2]" + names[mark], mark, 1.0, 2.0);
            check.reads("[1]" + names[mark], mark, 1.0, 1.0);
            check.reads("2?1" + names[mark], mark, 1.0, 3.0);
            // Told as bounded: com may be, and becomes dac by rounding.
            check.reads("[1,1e400]" + names[mark], Math.min(mark, 3), 1.0, Double.POSITIVE_INFINITY);
            check.reads("[-1e400,1]" + names[mark], Math.min(mark, 3), Double.NEGATIVE_INFINITY, 1.0);
            check.reads("1?1e400" + names[mark], Math.min(mark, 3), 0.0, Double.POSITIVE_INFINITY);
        }
        check.reads("[1,2]", Check.COM, 1.0, 2.0);
        check.reads("[1,]", Check.DAC, 1.0, Double.POSITIVE_INFINITY);
        check.reads("[,1]", Check.DAC, Double.NEGATIVE_INFINITY, 1.0);
        check.reads("[1,1e400]", Check.DAC, 1.0, Double.POSITIVE_INFINITY);
        check.reads("[0x1p1024]_com", Check.DAC, Double.MAX_VALUE, Double.POSITIVE_INFINITY);
    }

    private static void blanksAndCases(Check check) {
        check.reads("\t [ \t1\t , 2 \t] \t", Check.COM, 1.0, 2.0);
        check.reads("  [1\t,\t2]_DaC  ", Check.DAC, 1.0, 2.0);
        check.reads(" \t 1?1 ", Check.COM, 0.0, 2.0);
        check.reads("1?1UE1_DEF\t", Check.DEF, 10.0, 20.0);
        check.reads("[0XaBp0,0XAbcP0]", Check.COM, 171.0, 2748.0);
        check.reads("[1E2]", Check.COM, 100.0, 100.0);
        check.reads("[ -INF , +InFiNiTy ]", Check.DAC, Double.NEGATIVE_INFINITY, Double.POSITIVE_INFINITY);
    }

    private static void isUsedUp(Check check) {
        IntervalText x = new IntervalText();
        check.reads(x, "[1,2]_dac", Check.DAC, Check.bits(1), Check.bits(2));
        check.due("feed behind read", x.feed(' ', 1), 1);
        check.due("read of a blank", x.read(), Check.ILL);
        check.reads(x, "[1,", Check.ILL, Check.NAN, Check.NAN);
        check.due("feed behind an ill text", x.feed(' ', 1), 1);
        check.reads(x, "[3]", Check.COM, Check.bits(3), Check.bits(3));
        check.due("read of nothing", x.read(), Check.ILL);
        check.due("low of nothing", x.low(), Check.NAN);
    }
}
