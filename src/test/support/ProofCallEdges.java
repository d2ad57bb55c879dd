/** The sentences of the promises 11, 14 and 15. */
final class ProofCallEdges {
    private ProofCallEdges() {
    }

    /** A goal of height 4 that needs eight atoms, all from the same set. */
    private static String eightOf(String atom) {
        return "(((a&a)&(a&a))&((a&a)&(a&a)))".replace("a", atom);
    }

    @Says(of = "Promise 11", words = "Counts the different proofs of the goal from a set of resources within a height.")
    static void waysCounts() {
        OnceProver x = Due.with("r:a|a|a", "r:a|a", "w:b<b|b", "g:a");
        Due.is("from one", x.ways(1, 1), 3);
        Due.is("from the other", x.ways(2, 1), 2);
        Due.is("from both", x.ways(3, 10), 0);
        Due.is("from none", x.ways(0, 10), 0);
        Due.add(x, "g:(a*a)");
        Due.is("two splits", x.ways(3, 2), 12);
        Due.add(x, "g:b");
        for (int h = 0; h <= 10; h++) {
            Due.is("one more for each height: ways(0, " + h + ")", x.ways(0, h), h);
        }
    }

    @Says(of = "Promise 11", words = "`set`: the set")
    static void waysSets() {
        OnceProver x = Due.with("r:a", "r:b|b", "r:c", "r:d", "r:e|e|e", "g:(1+(T*e))");
        Due.is("the empty set", x.ways(0, 10), 1);
        Due.is("number 4", x.ways(16, 10), 3);
        Due.is("all five", x.ways(31, 10), 3);
        Due.is("without number 4", x.ways(15, 10), 0);
        Due.add(x, "g:(T*T)");
        for (int set = 0; set <= 31; set++) {
            for (int h = 0; h <= 10; h++) {
                Due.is("ways(" + set + ", " + h + ")", x.ways(set, h), h < 2 ? 0 : 1 << Integer.bitCount(set));
            }
        }
    }

    @Says(of = "Promise 11", words = "`h`: the height, 0 to 10")
    static void waysHeights() {
        OnceProver x = Due.with("g:(1+(!T+!!!!!!!T))");
        int[] ways = {0, 0, 1, 1, 2, 2, 2, 2, 2, 2, 3};
        for (int h = 0; h <= 10; h++) {
            Due.is("ways(0, " + h + ")", x.ways(0, h), ways[h]);
        }
    }

    /** The goal has a part, here %s, with MANY - 9 proofs; a has nine of them, b two, and (b&(b+b)) eight. */
    private static OnceProver nearMany(String more) {
        OnceProver x = Due.with("w:a|a|a", "w:a|a|a", "w:a|a|a", "w:b|b|c<((1+(a&(a&a)))&(b+(a&(a+b))))");
        Due.add(x, "g:" + String.format(more, "((a&(a+(b&(b+(a&(b+(a&a)))))))&c)"));
        return x;
    }

    @Says(of = "Promise 11", words = "Returns their number, at most MANY;")
    static void waysUpToMany() {
        Due.is("none", Due.with("g:h").ways(0, 10), 0);
        Due.is("one below MANY", nearMany("(%s+(b&(b+b)))").ways(0, 10), 999999998);
        Due.is("as many as MANY", nearMany("(%s+(1+(b&(b+b))))").ways(0, 10), Due.MANY);
        Due.is("one above MANY", nearMany("(%s+(1+(1+(b&(b+b)))))").ways(0, 10), Due.MANY);
    }

    @Says(of = "Promise 11", words = "at most MANY;")
    static void waysFarAboveMany() {
        OnceProver x = Due.with("r:c", "w:a|a", "w:b<" + eightOf("a"));
        String big = "((b&b)&(b&b))";
        String[] goals = {big, "(1&" + big + ")", "(" + big + "+" + big + ")", "(" + big + "*" + big + ")", "!" + big,
            "(" + big + "&" + big + ")", "[d](d*" + big + ")", "(1+" + big + ")", "(h+" + big + ")"};
        for (String goal : goals) {
            Due.add(x, "g:" + goal);
            Due.is("ways of " + goal, x.ways(0, 10), Due.MANY);
        }
        Due.add(x, "g:(" + big + "*c)");
        Due.is("ways with a resource", x.ways(1, 10), Due.MANY);
        Due.add(x, "g:(h&" + big + ")");
        Due.is("ways times none", x.ways(0, 10), 0);
        Due.add(x, "g:(" + big + "*h)");
        Due.is("ways times none", x.ways(0, 10), 0);
        Due.add(x, "w:e<" + big + "|e|e<" + big, "g:e");
        Due.is("ways by a well", x.ways(0, 10), Due.MANY);
    }

    @Says(of = "Promise 11", words = "UNKNOWN if the set contains a number that is not a resource that is there,")
    static void waysUnknown() {
        OnceProver x = Due.with("r:a", "r:b", "r:c", "w:a", "g:[a]T");
        x.drop(0, 1);
        for (int set : new int[] {2, 3, 7, 8, 16, 32, 37, 64, 256, 1 << 30, Integer.MAX_VALUE}) {
            Due.is("ways(" + set + ", 10)", x.ways(set, 10), Due.UNKNOWN);
        }
        Due.is("ways(5, 10)", x.ways(5, 10), 1);
        Due.is("ways(2, 11) is UNKNOWN first", x.ways(2, 11), Due.UNKNOWN);
    }

    @Says(of = "Promise 11", words = "or is negative;")
    static void waysNegative() {
        OnceProver x = Due.with("r:a", "r:a", "r:a", "r:a", "r:a", "g:T");
        for (int set : new int[] {-1, -32, Integer.MIN_VALUE, Integer.MIN_VALUE + 1}) {
            Due.is("ways(" + set + ", 10)", x.ways(set, 10), Due.UNKNOWN);
        }
    }

    @Says(of = "Promise 11", words = "OUTSIDE if h is out of range;")
    static void waysOutside() {
        OnceProver x = Due.with("r:a", "g:a");
        for (int h : new int[] {Integer.MIN_VALUE, -1, 11, Integer.MAX_VALUE}) {
            Due.is("ways(1, " + h + ")", x.ways(1, h), Due.OUTSIDE);
            Due.is("ways(0, " + h + ")", x.ways(0, h), Due.OUTSIDE);
        }
    }

    @Says(of = "Promise 11", words = "STATE if there is no goal.")
    static void waysState() {
        OnceProver x = Due.with("r:a");
        Due.is("ways(1, 10)", x.ways(1, 10), Due.STATE);
        Due.is("ways(0, 0)", x.ways(0, 0), Due.STATE);
        Due.is("ways(1, 11) is OUTSIDE first", x.ways(1, 11), Due.OUTSIDE);
        Due.is("ways(2, 10) is UNKNOWN first", x.ways(2, 10), Due.UNKNOWN);
    }

    @Says(of = "Promise 14", words = "Returns a number of the code of the first proof.")
    static void termOfTheFirstProof() {
        OnceProver x = Due.with("r:b", "r:a|a<b", "w:c", "g:(a*(c+T))");
        Due.same("the code", Due.code(x), "202,10,301");
        x.drop(0, 0);
        Due.same("the code when a resource is gone", Due.code(x), "202,10,300,100");
        Due.add(x, "g:a");
        Due.same("the code of another goal", Due.code(x), "10");
    }

    @Says(of = "Promise 14", words = "`i`: -1 for how many numbers the code has, or an index from 0")
    static void termIndexes() {
        OnceProver x = Due.with("g:!T");
        Due.is("a code without numbers", x.term(-1), 0);
        Due.add(x, "w:a", "g:(a*a)");
        Due.is("a code with three", x.term(-1), 3);
        Due.is("its first", x.term(0), 200);
        Due.is("its last", x.term(2), 100);
    }

    @Says(of = "Promise 14", words = "Returns that number;")
    static void termNumbers() {
        OnceProver x = Due.with("r:a", "g:[b][c](a*(c*b))");
        Due.is("the number 0", x.term(1), 0);
        Due.add(x, "g:(a*[b|c|d][e|f|g]((d*g)*1))");
        Due.same("the code", Due.code(x), "201,0,296,232,52,62");
        OnceProver y = Due.with("w:a<" + eightOf("b"), "w:b", "g:" + eightOf("a"));
        Due.is("a long code", y.term(-1), 8 + 64);
        Due.is("its last number", y.term(71), 110);
        Due.is("behind its last number", y.term(72), Due.NONE);
    }

    @Says(of = "Promise 14", words = "NONE if there is no proof (also for -1),")
    static void termWithoutProof() {
        OnceProver x = Due.with("r:a", "r:b", "g:a");
        Due.is("term(-1)", x.term(-1), Due.NONE);
        Due.is("term(0)", x.term(0), Due.NONE);
        x.drop(0, 1);
        Due.is("term(-1) with a proof", x.term(-1), 1);
        Due.add(x, "g:!!!!!!!!!!T");
        Due.is("term(-1) above height 10", x.term(-1), Due.NONE);
    }

    @Says(of = "Promise 14", words = "or no such index;")
    static void termWithoutIndex() {
        OnceProver x = Due.with("r:a", "g:a");
        Due.is("term(1)", x.term(1), Due.NONE);
        Due.is("term(max)", x.term(Integer.MAX_VALUE), Due.NONE);
        x.drop(0, 0);
        Due.add(x, "g:1");
        Due.is("term(0) of a code without numbers", x.term(0), Due.NONE);
    }

    @Says(of = "Promise 14", words = "OUTSIDE if i is less than -1;")
    static void termOutside() {
        OnceProver x = Due.with("r:a", "g:a");
        Due.is("term(-2)", x.term(-2), Due.OUTSIDE);
        Due.is("term(min)", x.term(Integer.MIN_VALUE), Due.OUTSIDE);
        Due.is("term(-2) without a proof", Due.with("g:h").term(-2), Due.OUTSIDE);
    }

    @Says(of = "Promise 14", words = "STATE if there is no goal.")
    static void termState() {
        OnceProver x = Due.with("r:a");
        Due.is("term(-1)", x.term(-1), Due.STATE);
        Due.is("term(0)", x.term(0), Due.STATE);
        Due.is("term(99)", x.term(99), Due.STATE);
        Due.is("term(-2) is OUTSIDE first", x.term(-2), Due.OUTSIDE);
    }

    @Says(of = "Promise 15", words = "Counts how often a single-use offer or a well is used, with any of its faces, "
            + "in the code of the first proof.")
    static void usesOfAllFaces() {
        OnceProver x = Due.with("r:a|b|c", "w:d|e|f", "g:((a&(b&c))*(d*(e*f)))");
        Due.is("a resource with three faces", x.uses(0, 0), 3);
        Due.is("a well with three faces", x.uses(1, 0), 3);
        Due.add(x, "g:(T*(e+d))");
        Due.is("a resource that is not used", x.uses(0, 0), 0);
        Due.is("a well that is used once", x.uses(1, 0), 1);
    }

    @Says(of = "Promise 15", words = "`kind`: 0: a single-use offer; 1: a well")
    static void usesKinds() {
        OnceProver x = Due.with("r:a", "r:b", "w:h", "w:c", "g:((a&a)*(b*(c*(c*c))))");
        Due.is("uses(0, 1)", x.uses(0, 1), 1);
        Due.is("uses(1, 1)", x.uses(1, 1), 3);
        Due.is("uses(0, 0)", x.uses(0, 0), 2);
        Due.is("uses(1, 0)", x.uses(1, 0), 0);
    }

    @Says(of = "Promise 15", words = "`n`: its number (it need not be there)")
    static void usesOfWhatIsNotThere() {
        OnceProver x = Due.with("w:a", "g:[b](b*a)");
        for (int n = 0; n <= 7; n++) {
            Due.is("uses(0, " + n + ")", x.uses(0, n), n == 5 ? 1 : 0);
        }
        for (int n = 0; n <= 3; n++) {
            Due.is("uses(1, " + n + ")", x.uses(1, n), n == 0 ? 1 : 0);
        }
    }

    @Says(of = "Promise 15", words = "Returns how often;")
    static void usesReturns() {
        OnceProver x = Due.with("r:b", "w:c", "w:c", "w:c", "w:a", "g:T");
        Due.is("not once", x.uses(1, 3), 0);
        Due.add(x, "g:((a&a)&(a&a))");
        Due.is("without a proof", x.uses(1, 3), 0);
        x.drop(0, 0);
        Due.is("four times", x.uses(1, 3), 4);
        OnceProver y = Due.with("w:a<" + eightOf("b"), "w:b", "g:" + eightOf("a"));
        Due.is("in a long code", y.uses(1, 1), 64);
    }

    @Says(of = "Promise 15", words = "0 if there is no proof;")
    static void usesWithoutProof() {
        OnceProver x = Due.with("r:a", "w:a", "g:a");
        Due.is("with a proof", x.uses(0, 0), 1);
        Due.add(x, "r:b");
        Due.is("uses(0, 0)", x.uses(0, 0), 0);
        Due.is("uses(1, 0)", x.uses(1, 0), 0);
    }

    @Says(of = "Promise 15", words = "OUTSIDE if kind is not 0 or 1;")
    static void usesOutside() {
        OnceProver x = Due.with("r:a", "g:a");
        for (int kind : new int[] {Integer.MIN_VALUE, -1, 2, Integer.MAX_VALUE}) {
            Due.is("uses(" + kind + ", 0)", x.uses(kind, 0), Due.OUTSIDE);
            Due.is("uses(" + kind + ", 99) is OUTSIDE first", x.uses(kind, 99), Due.OUTSIDE);
        }
    }

    @Says(of = "Promise 15", words = "UNKNOWN if n is not 0 to 7 for kind 0,")
    static void usesUnknownOffer() {
        OnceProver x = Due.with("r:a", "w:a", "g:a");
        for (int n : new int[] {Integer.MIN_VALUE, -1, 8, 9, 10, Integer.MAX_VALUE}) {
            Due.is("uses(0, " + n + ")", x.uses(0, n), Due.UNKNOWN);
        }
        Due.is("uses(0, 7)", x.uses(0, 7), 0);
    }

    @Says(of = "Promise 15", words = "or not 0 to 3 for kind 1;")
    static void usesUnknownWell() {
        OnceProver x = Due.with("r:a", "w:a", "g:a");
        for (int n : new int[] {Integer.MIN_VALUE, -1, 4, 7, Integer.MAX_VALUE}) {
            Due.is("uses(1, " + n + ")", x.uses(1, n), Due.UNKNOWN);
        }
        Due.is("uses(1, 3)", x.uses(1, 3), 0);
    }

    @Says(of = "Promise 15", words = "STATE if there is no goal.")
    static void usesState() {
        OnceProver x = Due.with("r:a", "w:a");
        Due.is("uses(0, 0)", x.uses(0, 0), Due.STATE);
        Due.is("uses(1, 0)", x.uses(1, 0), Due.STATE);
        Due.is("uses(2, 0) is OUTSIDE first", x.uses(2, 0), Due.OUTSIDE);
        Due.is("uses(0, 8) is UNKNOWN first", x.uses(0, 8), Due.UNKNOWN);
        Due.is("uses(1, 4) is UNKNOWN first", x.uses(1, 4), Due.UNKNOWN);
    }
}
