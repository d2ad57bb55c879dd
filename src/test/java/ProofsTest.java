/** Promises 11, 14 and 15: how many proofs there are, the first one, and what it uses. */
public final class ProofsTest {
    public static void main(String[] args) {
        ways();
        manyWays();
        waysWrong();
        codes();
        longCode();
        termEdges();
        uses();
        usesWrong();
        Due.end();
    }

    private static void ways() {
        OnceProver x = Due.with("r:a|a", "r:a", "w:b<a", "w:b<a|a", "g:a");
        Due.is("two faces", x.ways(1, 1), 2);
        Due.is("height 0", x.ways(1, 0), 0);
        Due.is("one face", x.ways(2, 1), 1);
        Due.is("a face of a well", x.ways(0, 1), 1);
        Due.is("too many", x.ways(3, 10), 0);
        Due.add(x, "g:b");
        Due.is("b at height 1", x.ways(1, 1), 0);
        Due.is("b by two wells", x.ways(1, 2), 4);
        Due.add(x, "g:(a*a)");
        Due.is("a*a from both", x.ways(3, 2), 4);
        Due.is("a*a from one, with the well", x.ways(2, 2), 2);
        Due.add(x, "g:(a&a)");
        Due.is("a&a", x.ways(1, 2), 4);
        Due.add(x, "g:(a+a)");
        Due.is("a+a", x.ways(1, 2), 4);
        Due.add(x, "g:(1+T)");
        Due.is("1+T from nothing", x.ways(0, 2), 2);
        Due.is("1+T from something", x.ways(1, 2), 1);
        Due.add(x, "g:!(a+b)");
        Due.is("!(a+b), low", x.ways(0, 3), 1);
        Due.is("!(a+b), high", x.ways(0, 4), 3);
        Due.is("!(a+b), from something", x.ways(1, 10), 0);
        Due.add(x, "g:[a|a](a*T)");
        Due.is("[a|a](a*T)", x.ways(0, 3), 3);
        Due.is("[a|a](a*T), low", x.ways(0, 2), 0);
        Due.is("[a|a](a*T), with one more", x.ways(2, 3), 4);
    }

    private static void manyWays() {
        OnceProver x = Due.with("w:a<a|a", "g:a");
        for (int h = 0; h <= 10; h++) {
            Due.is("one way for each height", x.ways(0, h), h);
        }
        OnceProver y = Due.with("w:a<(a*a)|a|a", "g:a");
        Due.is("height 1", y.ways(0, 1), 2);
        Due.is("height 2", y.ways(0, 2), 2);
        Due.is("height 3", y.ways(0, 3), 2 + 2 * 2);
        Due.is("height 5", y.ways(0, 5), 2 + 6 * 6);
        Due.is("height 7", y.ways(0, 7), 2 + 38 * 38);
        Due.is("height 9", y.ways(0, 9), 2 + 1446 * 1446);
        Due.add(y, "g:(a*a)");
        Due.is("MANY", y.ways(0, 10), OnceProver.MANY);
        Due.add(y, "g:((a*h)+(a*a))");
        Due.is("a product with 0 beside", y.ways(0, 10), 1446 * 1446);
        Due.add(y, "g:((a*h)+(1+a))");
        Due.is("1 beside", y.ways(0, 10), 1 + 2 + 38 * 38);
        OnceProver z = Due.with("w:a<(a&a)|a<(a&a)|a", "w:a|a|a", "w:a<a|a<a|a<a", "w:b<(a*a)|b<(b*b)|b<(a*b)", "g:(b*(b*b))");
        Due.is("MANY on the way", z.ways(0, 10), OnceProver.MANY);
    }

    private static void waysWrong() {
        OnceProver x = Due.with("r:a");
        Due.is("ways(1, 1)", x.ways(1, 1), OnceProver.STATE);
        Due.is("ways(1, 11)", x.ways(1, 11), OnceProver.OUTSIDE);
        Due.is("ways(2, 11)", x.ways(2, 11), OnceProver.UNKNOWN);
        Due.is("ways(2, 1)", x.ways(2, 1), OnceProver.UNKNOWN);
        Due.add(x, "g:a");
        Due.is("ways(-1, 1)", x.ways(-1, 1), OnceProver.UNKNOWN);
        Due.is("ways(32, 1)", x.ways(32, 1), OnceProver.UNKNOWN);
        Due.is("ways(1, -1)", x.ways(1, -1), OnceProver.OUTSIDE);
        Due.is("ways(1, 11)", x.ways(1, 11), OnceProver.OUTSIDE);
        Due.is("ways(1, 10)", x.ways(1, 10), 1);
        Due.is("ways(0, 10)", x.ways(0, 10), 0);
    }

    private static void codeIs(String want, String... texts) {
        Due.same("the code of " + String.join(" ", texts), Due.code(Due.with(texts)), want);
    }

    private static void codes() {
        codeIs("", "g:1");
        codeIs("", "g:!!T");
        codeIs("none", "g:h");
        codeIs("0", "r:a", "g:a");
        codeIs("none", "r:a", "r:a", "g:a");
        codeIs("1", "r:b|a|a", "g:a");
        codeIs("121", "w:a<b", "w:a<c", "w:b|a", "g:a");
        codeIs("101", "w:a<1|a", "g:a");
        codeIs("100", "w:a<1", "w:b", "g:a");
        codeIs("100,110", "w:a<b", "w:b", "g:a");
        codeIs("10,0", "r:b", "r:a<b", "g:a");
        codeIs("201,0,10", "r:a", "r:a", "g:(a*a)");
        codeIs("202,10,0", "r:b", "r:a", "g:(a*b)");
        codeIs("200,0", "r:a", "g:(T*a)");
        codeIs("201,0", "r:a", "r:b", "r:c", "g:(a*T)");
        codeIs("0,0", "r:a", "g:(a&a)");
        codeIs("300,1", "r:b|a", "g:(a+b)");
        codeIs("301,0", "r:b", "g:(a+b)");
        codeIs("300,0", "r:b", "g:(b+b)");
        codeIs("301,0", "r:b", "w:c<b", "g:(c+b)");
        codeIs("50", "g:[a]a");
        codeIs("264,60,201,0,50", "r:a", "g:[b][c](c*(a*b))");
        codeIs("0,100,101,232,50,60", "r:a<[b]c", "w:c<[d]e|e<(b*d)", "g:a");
        codeIs("201,0,60,50", "r:a<[b]b", "g:[c](a*c)");
        codeIs("200,100,60,0,50", "w:a<[b]b", "r:c<[d]d", "g:(a*c)");
        codeIs("50,60", "g:[a<[b]b]a");
        codeIs("50,60,70", "g:[a<b][b<c][c]a");
        codesWithinTheHeight();
    }

    /** The smaller code 100,120 of an a is too high for the smallest height of these goals. */
    private static void codesWithinTheHeight() {
        String[] wells = {"w:a<b", "w:a", "w:b", "w:c<a"};
        String[][] dues = {{"g:a", "110"}, {"g:!a", "110"}, {"g:(a*a)", "200,110,110"}, {"g:(a&a)", "110,110"},
            {"g:(a+a)", "300,110"}, {"g:[h](a*h)", "200,110,50"}, {"g:c", "130,110"}, {"g:(b*(1*a))", "200,120,200,110"},
            {"g:(a*(1*a))", "200,100,120,200,110"}, {"g:(a&!a)", "100,120,110"}};
        for (String[] due : dues) {
            OnceProver x = Due.with(wells);
            Due.add(x, due[0]);
            Due.same("the code of " + due[0], Due.code(x), due[1]);
        }
    }

    private static void longCode() {
        OnceProver x = Due.with("w:a<((a&a)&(a&a))|a<(1&(1&((1&1)&1)))", "g:(a&a)");
        Due.is("its height", x.height(0), 7);
        OnceProver y = Due.with("w:a<(((b*b)*(b*b))*((b*b)*(b*b)))", "w:b<(((c*c)*(c*c))*((c*c)*(c*c)))", "w:c", "g:(a*a)");
        Due.is("the height of the long one", y.height(0), 10);
        int as = 2;
        int bs = 8 * as;
        int cs = 8 * bs;
        Due.is("term(-1)", y.term(-1), 1 + as + 7 * as + bs + 7 * bs + cs);
        Due.is("term(0)", y.term(0), 200);
        Due.is("term(1)", y.term(1), 100);
        Due.is("the last term", y.term(y.term(-1) - 1), 120);
        Due.is("behind the last term", y.term(y.term(-1)), OnceProver.NONE);
        Due.is("uses(1, 0)", y.uses(1, 0), as);
        Due.is("uses(1, 1)", y.uses(1, 1), bs);
        Due.is("uses(1, 2)", y.uses(1, 2), cs);
        Due.is("trial(1)", y.trial(1), 60);
        Due.checks("the first 60 numbers", y, 2, 60, 10);
        Due.is("a 61st number", y.put(1), OnceProver.FULL);
    }

    private static void termEdges() {
        OnceProver x = new OnceProver();
        Due.is("term(-2) before STATE", x.term(-2), OnceProver.OUTSIDE);
        Due.is("term(-1)", x.term(-1), OnceProver.STATE);
        Due.add(x, "g:h");
        Due.is("term(-2)", x.term(-2), OnceProver.OUTSIDE);
        Due.is("term(-1) without a proof", x.term(-1), OnceProver.NONE);
        Due.is("term(0) without a proof", x.term(0), OnceProver.NONE);
        Due.add(x, "g:1");
        Due.is("term(-1) of nothing", x.term(-1), 0);
        Due.is("term(0) of nothing", x.term(0), OnceProver.NONE);
        Due.add(x, "w:h", "g:h");
        Due.is("term(0)", x.term(0), 100);
        Due.is("term(1)", x.term(1), OnceProver.NONE);
        Due.is("term(max)", x.term(Integer.MAX_VALUE), OnceProver.NONE);
        Due.is("term(min)", x.term(Integer.MIN_VALUE), OnceProver.OUTSIDE);
    }

    private static void uses() {
        OnceProver x = Due.with("r:a|b<1|c", "w:d", "w:e<d|f<(d*d)", "g:((a&c)*(d*(f*(e*[g]g))))");
        Due.same("the code", Due.code(x), "201,0,2,200,100,200,111,200,100,100,200,110,100,50");
        Due.is("uses(0, 0)", x.uses(0, 0), 2);
        Due.is("uses(0, 1)", x.uses(0, 1), 0);
        Due.is("uses(0, 5)", x.uses(0, 5), 1);
        Due.is("uses(0, 7)", x.uses(0, 7), 0);
        Due.is("uses(1, 0)", x.uses(1, 0), 4);
        Due.is("uses(1, 1)", x.uses(1, 1), 2);
        Due.is("uses(1, 3)", x.uses(1, 3), 0);
        Due.add(x, "r:h");
        Due.is("uses without a proof", x.uses(0, 0), 0);
    }

    private static void usesWrong() {
        OnceProver x = new OnceProver();
        Due.is("uses(-1, 99)", x.uses(-1, 99), OnceProver.OUTSIDE);
        Due.is("uses(2, 0)", x.uses(2, 0), OnceProver.OUTSIDE);
        Due.is("uses(0, -1)", x.uses(0, -1), OnceProver.UNKNOWN);
        Due.is("uses(0, 8)", x.uses(0, 8), OnceProver.UNKNOWN);
        Due.is("uses(1, 4)", x.uses(1, 4), OnceProver.UNKNOWN);
        Due.is("uses(1, -1)", x.uses(1, -1), OnceProver.UNKNOWN);
        Due.is("uses(0, 7)", x.uses(0, 7), OnceProver.STATE);
        Due.is("uses(1, 3)", x.uses(1, 3), OnceProver.STATE);
    }
}
