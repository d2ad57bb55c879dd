/** The sentences of the section "Proofs". */
final class ProofEdges {
    private ProofEdges() {
    }

    private static void heightIs(OnceProver x, int set, int want) {
        Due.is("height(" + set + ")", x.height(set), want);
    }

    private static void codeIs(String want, String... texts) {
        Due.same("the code of " + String.join(" ", texts), Due.code(Due.with(texts)), want);
    }

    /**
     * In the goal stands an a, which has one proof within height 1 and two within height 2, the latter with
     * the smaller code; with the a within height 1 the goal has this height.
     */
    private static void partHasHeight(String goal, int height) {
        OnceProver x = Due.with("w:a<b", "w:a", "w:b", "w:d<a", "g:" + goal);
        Due.is(goal + ": height(0)", x.height(0), height);
        Due.is(goal + ": ways(0, " + (height - 1) + ")", x.ways(0, height - 1), 0);
        Due.is(goal + ": ways(0, " + height + ")", x.ways(0, height), 1);
        Due.is(goal + ": ways(0, " + (height + 1) + ")", x.ways(0, height + 1), 2);
        Due.is(goal + ": uses of the smaller code", x.uses(1, 0), 0);
        Due.is(goal + ": uses of the greater code", x.uses(1, 1), 1);
    }

    @Says(of = "Proofs", words = "Whether a goal can be proved from a set M of single-use offers within a height h (0 to 10) "
            + "is defined as follows.")
    static void heightsToTen() {
        OnceProver x = Due.with("g:!!!!!!!!!1");
        heightIs(x, 0, 10);
        Due.is("ways(0, 9)", x.ways(0, 9), 0);
        Due.is("ways(0, 10)", x.ways(0, 10), 1);
        Due.add(x, "g:!!!!!!!!!!1");
        heightIs(x, 0, Due.NONE);
        Due.is("ways(0, 10)", x.ways(0, 10), 0);
    }

    @Says(of = "Proofs", words = "Within height 0 nothing can be proved.")
    static void heightZero() {
        OnceProver x = Due.with("r:a", "w:b");
        String[] goals = {"a", "b", "1", "T", "!T", "(T*T)", "(T&T)", "(T+T)", "[c]T"};
        for (String goal : goals) {
            Due.add(x, "g:" + goal);
            Due.is(goal + ": ways(0, 0)", x.ways(0, 0), 0);
            Due.is(goal + ": ways(1, 0)", x.ways(1, 0), 0);
            Due.is(goal + ": left(0, -1)", x.left(0, -1), 0);
        }
    }

    @Says(of = "Proofs", words = "Otherwise: - An atom: with a face, with this atom as its head, of a single-use offer in M,")
    static void atomNeedsAnOfferInTheSet() {
        OnceProver x = Due.with("r:a", "r:b|c", "g:a");
        heightIs(x, 1, 1);
        heightIs(x, 0, Due.NONE);
        heightIs(x, 2, Due.NONE);
        Due.add(x, "g:c");
        heightIs(x, 2, 1);
        Due.add(x, "g:d");
        heightIs(x, 2, Due.NONE);
        Due.add(x, "g:([d]T*d)");
        heightIs(x, 0, Due.NONE);
        Due.add(x, "g:[d](T*d)");
        heightIs(x, 0, 3);
    }

    @Says(of = "Proofs", words = "if the face has no body and M contains nothing else,")
    static void atomWithoutBody() {
        OnceProver x = Due.with("r:a", "r:a", "g:a");
        heightIs(x, 1, 1);
        heightIs(x, 2, 1);
        heightIs(x, 3, Due.NONE);
        Due.add(x, "g:[b]a");
        heightIs(x, 1, Due.NONE);
        OnceProver y = Due.with("r:a|a<b", "r:b", "g:a");
        Due.is("ways without what is left", y.ways(3, 10), 1);
        Due.same("the code without what is left", Due.code(y), "1,10");
    }

    @Says(of = "Proofs", words = "or if its body can be proved from M without this offer within height h - 1;")
    static void atomWithBody() {
        OnceProver x = Due.with("r:a<b", "r:b", "g:a");
        Due.is("ways(3, 1)", x.ways(3, 1), 0);
        Due.is("ways(3, 2)", x.ways(3, 2), 1);
        heightIs(x, 3, 2);
        heightIs(x, 1, Due.NONE);
        OnceProver y = Due.with("r:a<a", "g:a");
        heightIs(y, 1, Due.NONE);
        Due.add(y, "g:[a]a");
        heightIs(y, 1, 3);
        OnceProver z = Due.with("r:a<!!!!!!!!1", "g:a");
        heightIs(z, 1, 10);
        Due.add(z, "r:a<!!!!!!!!!1");
        heightIs(z, 2, Due.NONE);
        partHasHeight("[c<a]c", 3);
    }

    @Says(of = "Proofs", words = "or with such a face of a well, if the face has no body and M is empty,")
    static void wellWithoutBody() {
        OnceProver x = Due.with("r:b", "w:c|a", "g:a");
        heightIs(x, 0, 1);
        heightIs(x, 1, Due.NONE);
        Due.add(x, "g:(a*(a*(b*(a*a))))");
        heightIs(x, 1, 5);
        Due.add(x, "g:b");
        heightIs(x, 1, 1);
        heightIs(x, 0, Due.NONE);
        OnceProver y = Due.with("r:b", "w:a|a<b", "g:a");
        Due.is("ways without what is left", y.ways(1, 10), 1);
        Due.same("the code without what is left", Due.code(y), "101,0");
    }

    @Says(of = "Proofs", words = "or if its body can be proved from M within height h - 1.")
    static void wellWithBody() {
        OnceProver x = Due.with("r:b", "w:a<b|b<a", "g:a");
        Due.is("ways(1, 1)", x.ways(1, 1), 0);
        Due.is("ways(1, 2)", x.ways(1, 2), 1);
        Due.is("ways(1, 4)", x.ways(1, 4), 2);
        heightIs(x, 0, Due.NONE);
        Due.add(x, "w:c<!!!!!!!!1", "g:c");
        heightIs(x, 0, 10);
        Due.add(x, "w:d<!!!!!!!!!1", "g:d");
        heightIs(x, 0, Due.NONE);
        partHasHeight("d", 2);
    }

    @Says(of = "Proofs", words = "- 1: if M is empty.")
    static void one() {
        OnceProver x = Due.with("r:a", "g:1");
        heightIs(x, 0, 1);
        heightIs(x, 1, Due.NONE);
        Due.add(x, "g:[b]1");
        heightIs(x, 0, Due.NONE);
    }

    @Says(of = "Proofs", words = "- T: always.")
    static void top() {
        OnceProver x = Due.with("r:a", "r:b", "r:c", "r:d", "r:e", "g:T");
        for (int set = 0; set <= 31; set++) {
            heightIs(x, set, 1);
        }
        Due.add(x, "g:[a][b][c]T");
        heightIs(x, 0, 4);
        heightIs(x, 31, 4);
    }

    @Says(of = "Proofs", words = "- !A: if M is empty, and A can be proved from the empty set within height h - 1.")
    static void bang() {
        OnceProver x = Due.with("r:a", "w:b", "g:!T");
        heightIs(x, 0, 2);
        heightIs(x, 1, Due.NONE);
        Due.is("ways(0, 1)", x.ways(0, 1), 0);
        Due.add(x, "g:!a");
        heightIs(x, 1, Due.NONE);
        heightIs(x, 0, Due.NONE);
        Due.add(x, "g:!b");
        heightIs(x, 0, 2);
        Due.add(x, "g:[c]!T");
        heightIs(x, 0, Due.NONE);
        partHasHeight("!a", 2);
        partHasHeight("!!!!!!!!a", 9);
    }

    @Says(of = "Proofs", words = "- (A*B): if for some subset S of M, A can be proved from S, and B from the rest of M, "
            + "both within height h - 1.")
    static void times() {
        OnceProver x = Due.with("r:a", "r:b", "g:(a*b)");
        heightIs(x, 3, 2);
        Due.is("ways(3, 1)", x.ways(3, 1), 0);
        heightIs(x, 1, Due.NONE);
        heightIs(x, 0, Due.NONE);
        Due.add(x, "g:(1*(a*b))");
        heightIs(x, 3, 3);
        Due.add(x, "g:((a*b)*1)");
        heightIs(x, 3, 3);
        Due.add(x, "g:(a*a)");
        heightIs(x, 1, Due.NONE);
        heightIs(x, 3, Due.NONE);
        Due.add(x, "g:(1*1)");
        heightIs(x, 0, 2);
        heightIs(x, 1, Due.NONE);
        Due.add(x, "g:(T*!!!!!!!!1)");
        heightIs(x, 3, 10);
        Due.add(x, "g:(T*!!!!!!!!!1)");
        heightIs(x, 3, Due.NONE);
        Due.add(x, "g:(!!!!!!!!!1*T)");
        heightIs(x, 3, Due.NONE);
        partHasHeight("(a*1)", 2);
        partHasHeight("(1*a)", 2);
        partHasHeight("[c](a*c)", 3);
    }

    @Says(of = "Proofs", words = "- (A&B): if both A and B can be proved from M within height h - 1.")
    static void with() {
        OnceProver x = Due.with("r:a|b", "r:c<a", "g:(a&b)");
        heightIs(x, 1, 2);
        Due.is("ways(1, 1)", x.ways(1, 1), 0);
        heightIs(x, 0, Due.NONE);
        Due.add(x, "g:(a&c)");
        heightIs(x, 1, Due.NONE);
        heightIs(x, 3, Due.NONE);
        Due.add(x, "g:(T&c)");
        heightIs(x, 3, 3);
        Due.add(x, "g:(c&T)");
        heightIs(x, 3, 3);
        Due.add(x, "g:(1&!!!!!!!!!1)");
        heightIs(x, 0, Due.NONE);
        Due.add(x, "g:(!!!!!!!!!1&1)");
        heightIs(x, 0, Due.NONE);
        partHasHeight("(a&1)", 2);
        partHasHeight("(1&a)", 2);
    }

    @Says(of = "Proofs", words = "- (A+B): if A or B can be proved from M within height h - 1.")
    static void plus() {
        OnceProver x = Due.with("r:a", "r:c<a", "g:(a+b)");
        heightIs(x, 1, 2);
        Due.is("ways(1, 1)", x.ways(1, 1), 0);
        Due.add(x, "g:(b+a)");
        heightIs(x, 1, 2);
        heightIs(x, 0, Due.NONE);
        Due.add(x, "g:(b+d)");
        heightIs(x, 1, Due.NONE);
        Due.add(x, "g:(a+c)");
        heightIs(x, 1, 2);
        heightIs(x, 3, 3);
        Due.add(x, "g:(!!!!!!!!!1+!!!!!!!!1)");
        heightIs(x, 0, 10);
        partHasHeight("(a+h)", 2);
        partHasHeight("(h+a)", 2);
    }

    @Says(of = "Proofs", words = "- [R]A: if the loan R is not in M, and A can be proved from M together with R within height h - 1.")
    static void loan() {
        OnceProver x = Due.with("r:b", "g:[a]a");
        heightIs(x, 0, 2);
        Due.is("ways(0, 1)", x.ways(0, 1), 0);
        heightIs(x, 1, Due.NONE);
        Due.add(x, "g:[a](a*b)");
        heightIs(x, 1, 3);
        Due.add(x, "g:[a]b");
        heightIs(x, 1, Due.NONE);
        partHasHeight("[c](c*a)", 3);
        String[] loansBefore = {"w:h", "w:h<[g]h", "w:h<[g][g]h"};
        for (int n = 0; n < loansBefore.length; n++) {
            OnceProver busy = Due.with(loansBefore[n], "w:c<[d]c|c<(d*d)", "g:c");
            heightIs(busy, 0, Due.NONE);
            OnceProver once = Due.with(loansBefore[n], "w:c<[d]c|c<d", "g:c");
            Due.is("the loan " + (5 + n) + " is busy: ways(0, 10)", once.ways(0, 10), 1);
            Due.same("the code with the loan " + (5 + n), Due.code(once), "110,111," + 10 * (5 + n));
        }
        OnceProver again = Due.with("w:c<[d](d*c)|c", "g:c");
        Due.is("the loan has been used: ways(0, 10)", again.ways(0, 10), 4);
    }

    @Says(of = "Proofs", words = "\"Can be proved\", without a height, means within height 10.")
    static void withoutAHeight() {
        OnceProver x = Due.with("r:a", "g:(a*!!!!!!!!1)");
        Due.is("fewest() at 10", x.fewest(), 1);
        heightIs(x, 1, 10);
        Due.add(x, "g:(T*!!!!!!!!1)");
        Due.is("needed() at 10", x.needed(), 0);
        Due.add(x, "g:(T*!!!!!!!!!1)");
        Due.is("needed() at 11", x.needed(), 1);
        Due.is("fewest() at 11", x.fewest(), Due.NONE);
        heightIs(x, 1, Due.NONE);
        Due.is("term(-1) at 11", x.term(-1), Due.NONE);
    }

    @Says(of = "Proofs", words = "The code of a proof of a goal from M within height h is a sequence of numbers: "
            + "for an atom 10 * n + f (face f of the single-use offer n)")
    static void codeOfASingleUseOffer() {
        codeIs("0", "r:a", "g:a");
        codeIs("2", "r:b|b|a", "g:a");
        OnceProver x = Due.with("r:f", "r:f", "r:f", "r:f", "r:c|b|a", "g:a");
        for (int n = 0; n <= 3; n++) {
            x.drop(0, n);
        }
        Due.same("the code with resource 4", Due.code(x), "42");
        codeIs("50", "g:[a]a");
        codeIs("232,50,264,61,72", "g:[a][b|c][b|c|d](a*(c*d))");
    }

    @Says(of = "Proofs", words = "or 100 + 10 * n + f (face f of well n),")
    static void codeOfAWell() {
        codeIs("100", "w:a", "g:a");
        codeIs("132", "w:b", "w:b", "w:b", "w:c|b|a", "g:a");
        codeIs("121", "w:b", "w:b", "w:c|a|a", "w:a", "g:a");
    }

    @Says(of = "Proofs", words = "and then the code of a proof of the body, if there is one;")
    static void codeOfABody() {
        codeIs("0", "r:a", "g:a");
        codeIs("0,101,10", "r:a<b", "r:c", "w:d|b<c", "g:a");
        codeIs("0", "r:a<1", "g:a");
    }

    @Says(of = "Proofs", words = "for (A*B) 200 + S (S as a bit mask), then the code for A from S, then that for B;")
    static void codeOfASplit() {
        codeIs("200", "g:(1*1)");
        codeIs("201,0,10", "r:a", "r:b", "g:(a*b)");
        codeIs("202,10,0", "r:a", "r:b", "g:(b*a)");
        OnceProver x = Due.with("r:a", "r:b", "r:c", "r:d", "r:e", "g:[f][g][h]((((a*b)*(c*d))*((e*f)*(g*h)))*1)");
        Due.is("the greatest S", x.term(0), 455);
    }

    @Says(of = "Proofs", words = "for (A&B) the code for A, then that for B;")
    static void codeOfAPair() {
        codeIs("1,0", "r:b|a", "g:(a&b)");
        codeIs("0,1", "r:b|a", "g:(b&a)");
        codeIs("", "g:(1&T)");
    }

    @Says(of = "Proofs", words = "for (A+B) 300 and the code for A, or 301 and the code for B;")
    static void codeOfAChoice() {
        codeIs("300,0", "r:a", "g:(a+b)");
        codeIs("301,0", "r:a", "g:(b+a)");
        codeIs("300,0", "r:a", "g:(a+a)");
        codeIs("300", "g:(1+T)");
    }

    @Says(of = "Proofs", words = "for !A and [R]A the code for A;")
    static void codeOfABangAndALoan() {
        codeIs("100", "w:a", "g:!!a");
        codeIs("", "g:!!T");
        codeIs("50", "g:[a]a");
        codeIs("232,50,60", "g:[a][b](a*b)");
    }

    @Says(of = "Proofs", words = "for 1 and T nothing.")
    static void codeOfOneAndTop() {
        codeIs("", "g:1");
        codeIs("", "r:a", "g:T");
        codeIs("201", "r:a", "g:(T*1)");
        codeIs("200", "r:a", "g:(1*T)");
    }

    @Says(of = "Proofs", words = "Two proofs are different if their codes are different.")
    static void differentCodes() {
        OnceProver x = Due.with("r:a|a", "r:a", "w:b<1|b<1", "g:a");
        Due.is("two faces alike", x.ways(1, 1), 2);
        Due.add(x, "g:(a+a)");
        Due.is("two sides alike", x.ways(2, 2), 2);
        Due.add(x, "g:(a*a)");
        Due.is("two splits", x.ways(3, 2), 4);
        Due.add(x, "g:b");
        Due.is("two bodies alike", x.ways(0, 2), 2);
        Due.add(x, "g:(1*T)");
        Due.is("one split", x.ways(0, 2), 1);
        Due.add(x, "g:(T*T)");
        Due.is("all splits", x.ways(3, 2), 4);
    }

    @Says(of = "Proofs", words = "The first proof is the one with the lexicographically smallest code "
            + "among all proofs of the goal from all resources")
    static void smallestCode() {
        codeIs("2,10", "r:c|d|a<b", "r:b|a<c", "g:a");
        codeIs("1,10", "r:a|a<a", "r:a|a<a", "g:a");
        codeIs("100,110", "w:a<b", "w:b|b", "g:a");
        codeIs("201,0,10", "r:a", "r:a", "g:(a*a)");
        codeIs("200", "r:a", "r:a", "g:(T*T)");
        codeIs("none", "r:a", "r:b", "g:b");
    }

    @Says(of = "Proofs", words = "within the smallest height within which it can be proved.")
    static void smallestHeight() {
        codeIs("110", "w:a<1", "w:a", "g:a");
        codeIs("1", "r:a<(T*T)|a<T", "g:a");
        codeIs("301", "g:((T*T)+T)");
        codeIs("201,101", "r:a", "w:c<a|c", "g:(T*c)");
        codeIs("201,0", "r:c", "w:c<1", "g:(c*T)");
    }
}
