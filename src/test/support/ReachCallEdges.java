/** The sentences of the promises 9, 10, 12 and 13. */
final class ReachCallEdges {
    private static final int[] NO_SETS_OF_ZERO_AND_TWO = {2, 3, 6, 7, 8, 16, 31, 32, 64, 256, 1 << 30, Integer.MAX_VALUE};
    private static final int[] NEGATIVE = {-1, -2, -5, Integer.MIN_VALUE, Integer.MIN_VALUE + 1};

    private ReachCallEdges() {
    }

    /** A prover with the resources 0 and 2 alone. */
    private static OnceProver withZeroAndTwo(String... more) {
        OnceProver x = Due.with("r:a", "r:b", "r:c");
        x.drop(0, 1);
        Due.add(x, more);
        return x;
    }

    @Says(of = "Promise 9", words = "Returns the smallest height within which the goal can be proved from a set of resources.")
    static void smallestHeight() {
        OnceProver x = Due.with("w:a<!!1", "w:a<!1", "w:a<!!!1", "g:a");
        Due.is("the smallest of three", x.height(0), 3);
        Due.add(x, "g:((T*T)+T)");
        Due.is("the smaller of two", x.height(0), 2);
    }

    @Says(of = "Promise 9", words = "`set`: the set")
    static void setsFromEmptyToFull() {
        OnceProver x = Due.with("r:a", "r:a", "r:a", "r:a", "r:a", "g:(1+(a*(a*(a*(a*a)))))");
        Due.is("height(0)", x.height(0), 2);
        Due.is("height(31)", x.height(31), 6);
        Due.is("height(30)", x.height(30), Due.NONE);
    }

    @Says(of = "Promise 9", words = "Returns the height;")
    static void heightsFromOneToTen() {
        OnceProver x = new OnceProver();
        for (int height = 1; height <= 10; height++) {
            Due.add(x, "g:" + "!".repeat(height - 1) + "T");
            Due.is("height(0)", x.height(0), height);
        }
    }

    @Says(of = "Promise 9", words = "NONE if the goal cannot be proved from it;")
    static void heightNone() {
        OnceProver x = Due.with("r:a", "r:b", "g:a");
        Due.is("height(0)", x.height(0), Due.NONE);
        Due.is("height(2)", x.height(2), Due.NONE);
        Due.is("height(3)", x.height(3), Due.NONE);
        Due.add(x, "g:!!!!!!!!!!T");
        Due.is("height(0) above 10", x.height(0), Due.NONE);
    }

    @Says(of = "Promise 9", words = "UNKNOWN if the set contains a number that is not a resource that is there,")
    static void heightUnknown() {
        OnceProver x = withZeroAndTwo("w:a", "g:[a]T");
        for (int set : NO_SETS_OF_ZERO_AND_TWO) {
            Due.is("height(" + set + ")", x.height(set), Due.UNKNOWN);
        }
        Due.is("height(5)", x.height(5), 2);
        Due.is("without resources", Due.with("g:T").height(1), Due.UNKNOWN);
    }

    @Says(of = "Promise 9", words = "or is negative;")
    static void heightNegative() {
        OnceProver x = Due.with("r:a", "r:a", "r:a", "r:a", "r:a", "g:T");
        for (int set : NEGATIVE) {
            Due.is("height(" + set + ")", x.height(set), Due.UNKNOWN);
        }
    }

    @Says(of = "Promise 9", words = "STATE if there is no goal.")
    static void heightState() {
        OnceProver x = withZeroAndTwo();
        Due.is("height(0)", x.height(0), Due.STATE);
        Due.is("height(5)", x.height(5), Due.STATE);
        Due.is("height(2) is UNKNOWN first", x.height(2), Due.UNKNOWN);
        Due.is("height(-1) is UNKNOWN first", x.height(-1), Due.UNKNOWN);
    }

    private static void leftAre(OnceProver x, int h, int... sets) {
        Due.is("left(" + h + ", -1)", x.left(h, -1), sets.length);
        for (int i = 0; i < sets.length; i++) {
            Due.is("left(" + h + ", " + i + ")", x.left(h, i), sets[i]);
        }
        Due.is("left(" + h + ", " + sets.length + ")", x.left(h, sets.length), Due.NONE);
    }

    @Says(of = "Promise 10", words = "Finds the sets of resources that can be left over: those for which the goal can be proved "
            + "within a height from all resources that are not in the set.")
    static void leftSets() {
        OnceProver x = Due.with("r:a", "r:b", "g:a");
        leftAre(x, 10, 2);
        Due.add(x, "g:(a*b)");
        leftAre(x, 10, 0);
        Due.add(x, "g:1");
        leftAre(x, 10, 3);
        Due.add(x, "g:T");
        leftAre(x, 10, 0, 1, 2, 3);
        Due.add(x, "g:c");
        leftAre(x, 10);
        leftAre(withZeroAndTwo("g:T"), 10, 0, 1, 4, 5);
        leftAre(Due.with("g:T"), 10, 0);
    }

    @Says(of = "Promise 10", words = "`h`: the height, 0 to 10")
    static void leftHeights() {
        OnceProver x = Due.with("r:a", "g:(1+!!!!!!!!T)");
        leftAre(x, 0);
        leftAre(x, 1);
        leftAre(x, 2, 1);
        leftAre(x, 9, 1);
        leftAre(x, 10, 1);
        Due.add(x, "g:(a*!!!!!!!!T)");
        leftAre(x, 9);
        leftAre(x, 10, 0);
    }

    @Says(of = "Promise 10", words = "`i`: -1 for the number of these sets, or an index from 0 in the list of them "
            + "in ascending order of their bit masks")
    static void leftIndexes() {
        OnceProver x = Due.with("r:a", "r:a", "r:a", "r:a", "r:a", "g:T");
        Due.is("left(1, -1)", x.left(1, -1), 32);
        for (int i = 0; i <= 31; i++) {
            Due.is("left(1, " + i + ")", x.left(1, i), i);
        }
        Due.add(x, "g:(a+(a*a))");
        leftAre(x, 3, 7, 11, 13, 14, 15, 19, 21, 22, 23, 25, 26, 27, 28, 29, 30);
    }

    @Says(of = "Promise 10", words = "Returns the number, or the set;")
    static void leftReturns() {
        OnceProver x = Due.with("r:a", "r:a", "g:h");
        Due.is("the number 0", x.left(10, -1), 0);
        Due.add(x, "g:(a*a)");
        Due.is("the number 1", x.left(10, -1), 1);
        Due.is("the empty set", x.left(10, 0), 0);
    }

    @Says(of = "Promise 10", words = "NONE if there is no such index;")
    static void leftNone() {
        OnceProver x = Due.with("r:a", "g:T");
        Due.is("left(1, 1)", x.left(1, 1), 1);
        Due.is("left(1, 2)", x.left(1, 2), Due.NONE);
        Due.is("left(1, max)", x.left(1, Integer.MAX_VALUE), Due.NONE);
        Due.is("left(0, 0)", x.left(0, 0), Due.NONE);
        Due.add(x, "g:h");
        Due.is("left(10, 0)", x.left(10, 0), Due.NONE);
    }

    @Says(of = "Promise 10", words = "OUTSIDE if h is out of range or i is less than -1;")
    static void leftOutside() {
        OnceProver x = Due.with("r:a", "g:T");
        for (int h : new int[] {Integer.MIN_VALUE, -1, 11, Integer.MAX_VALUE}) {
            Due.is("left(" + h + ", 0)", x.left(h, 0), Due.OUTSIDE);
            Due.is("left(" + h + ", -1)", x.left(h, -1), Due.OUTSIDE);
        }
        for (int i : new int[] {-2, -3, Integer.MIN_VALUE}) {
            Due.is("left(1, " + i + ")", x.left(1, i), Due.OUTSIDE);
            Due.is("left(0, " + i + ")", x.left(0, i), Due.OUTSIDE);
        }
    }

    @Says(of = "Promise 10", words = "STATE if there is no goal.")
    static void leftState() {
        OnceProver x = Due.with("r:a");
        Due.is("left(10, -1)", x.left(10, -1), Due.STATE);
        Due.is("left(0, 99)", x.left(0, 99), Due.STATE);
        Due.is("left(11, 0) is OUTSIDE first", x.left(11, 0), Due.OUTSIDE);
        Due.is("left(10, -2) is OUTSIDE first", x.left(10, -2), Due.OUTSIDE);
    }

    @Says(of = "Promise 12", words = "Finds the set with the fewest resources from which the goal can be proved;")
    static void fewestOfAll() {
        OnceProver x = Due.with("r:b", "r:c", "r:a<(b*c)", "r:d", "r:a<d", "g:a");
        Due.is("two, not three", x.fewest(), 24);
        x.drop(0, 3);
        Due.is("three", x.fewest(), 7);
        Due.add(x, "g:(a*(a*(b*(c*d))))");
        Due.is("more than there are", x.fewest(), Due.NONE);
        OnceProver y = Due.with("r:a", "r:a", "r:a", "r:a", "r:a", "g:(a*(a*(a*(a*a))))");
        Due.is("all five", y.fewest(), 31);
    }

    @Says(of = "Promise 12", words = "of several the one with the lowest bit mask.")
    static void fewestAndLowest() {
        OnceProver x = Due.with("r:b", "r:a", "r:a", "r:a", "r:a", "g:a");
        Due.is("the lowest of four", x.fewest(), 2);
        Due.add(x, "g:(a*a)");
        Due.is("the lowest of six", x.fewest(), 6);
        x.drop(0, 2);
        Due.is("the lowest of three", x.fewest(), 10);
    }

    @Says(of = "Promise 12", words = "Returns the set;")
    static void fewestReturns() {
        OnceProver x = Due.with("r:a", "g:T");
        Due.is("the empty set", x.fewest(), 0);
        Due.add(x, "g:a");
        Due.is("the set of number 0", x.fewest(), 1);
        Due.is("without resources", Due.with("g:1").fewest(), 0);
    }

    @Says(of = "Promise 12", words = "NONE if there is none;")
    static void fewestNone() {
        Due.is("without a proof", Due.with("r:a", "g:b").fewest(), Due.NONE);
        Due.is("without resources", Due.with("g:b").fewest(), Due.NONE);
        Due.is("above height 10", Due.with("g:!!!!!!!!!!T").fewest(), Due.NONE);
        Due.is("at height 10", Due.with("g:!!!!!!!!!T").fewest(), 0);
    }

    @Says(of = "Promise 12", words = "STATE if there is no goal.")
    static void fewestState() {
        OnceProver x = Due.with("r:a");
        Due.is("fewest()", x.fewest(), Due.STATE);
        Due.add(x, "g:a");
        x.drop(2, 0);
        Due.is("fewest() again", x.fewest(), Due.STATE);
    }

    @Says(of = "Promise 13", words = "Returns the resources without which the goal cannot be proved:")
    static void neededResources() {
        OnceProver x = Due.with("r:a", "r:b", "r:c", "r:d", "r:e", "g:(e*(a*T))");
        Due.is("the first and the last", x.needed(), 17);
        Due.add(x, "g:T");
        Due.is("none", x.needed(), 0);
        Due.add(x, "g:(a*(b*(c*(d*e))))");
        Due.is("all", x.needed(), 31);
    }

    @Says(of = "Promise 13", words = "those n for which it cannot be proved from all resources without n.")
    static void neededOneByOne() {
        OnceProver x = Due.with("r:a", "r:a", "g:a");
        Due.is("each can go", x.needed(), 0);
        Due.add(x, "g:(a*a)");
        Due.is("none can go", x.needed(), 3);
        Due.add(x, "r:b", "g:(a*a)");
        Due.is("what is in the way can go", x.needed(), 3);
        Due.add(x, "g:a");
        Due.is("two are in the way", x.needed(), 7);
        Due.add(x, "g:h");
        Due.is("no proof at all", x.needed(), 7);
        Due.add(x, "g:1");
        Due.is("a proof, but from fewer", x.needed(), 7);
        x.drop(0, 0);
        x.drop(0, 1);
        Due.is("a proof from nothing", x.needed(), 0);
    }

    @Says(of = "Promise 13", words = "Returns the set of them;")
    static void neededReturns() {
        OnceProver x = withZeroAndTwo("g:(c*T)");
        Due.is("number 2", x.needed(), 4);
        Due.add(x, "g:h");
        Due.is("none but those that are there", x.needed(), 5);
        Due.is("without resources, proved", Due.with("g:T").needed(), 0);
        Due.is("without resources, not proved", Due.with("g:h").needed(), 0);
    }

    @Says(of = "Promise 13", words = "STATE if there is no goal.")
    static void neededState() {
        OnceProver x = Due.with("r:a");
        Due.is("needed()", x.needed(), Due.STATE);
        Due.add(x, "g:a");
        x.drop(2, 0);
        Due.is("needed() again", x.needed(), Due.STATE);
    }
}
