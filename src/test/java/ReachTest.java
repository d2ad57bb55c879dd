/** Promises 9, 10, 12 and 13: from which sets the goal can be proved, and within which height. */
public final class ReachTest {
    public static void main(String[] args) {
        atoms();
        units();
        bangs();
        splits();
        pairs();
        loans();
        limitOfHeight();
        changes();
        leftSets();
        fewestSets();
        neededSets();
        wrongInputs();
        Due.end();
    }

    private static void heightIs(String what, OnceProver x, int set, int want) {
        Due.is(what + ": height(" + set + ")", x.height(set), want);
    }

    private static void atoms() {
        OnceProver x = Due.with("r:a", "r:b<a", "r:b|c<a|a<1", "w:d<c", "w:e", "g:a");
        heightIs("a", x, 1, 1);
        heightIs("a", x, 0, OnceProver.NONE);
        heightIs("a", x, 2, OnceProver.NONE);
        heightIs("a by its third face", x, 4, 2);
        heightIs("a with something left", x, 3, OnceProver.NONE);
        Due.add(x, "g:b");
        heightIs("b", x, 3, 2);
        heightIs("b", x, 4, 1);
        heightIs("b", x, 6, 3);
        Due.add(x, "g:d");
        heightIs("d by a well", x, 5, 3);
        heightIs("d by a well", x, 4, OnceProver.NONE);
        Due.add(x, "g:e");
        heightIs("e by a well", x, 0, 1);
        heightIs("e by a well, with something left", x, 1, OnceProver.NONE);
        Due.add(x, "g:f");
        heightIs("f", x, 7, OnceProver.NONE);
    }

    private static void units() {
        OnceProver x = Due.with("r:a", "r:b", "g:1");
        heightIs("1", x, 0, 1);
        heightIs("1", x, 1, OnceProver.NONE);
        Due.add(x, "g:T");
        heightIs("T", x, 0, 1);
        heightIs("T", x, 3, 1);
        Due.add(x, "g:(1+T)");
        heightIs("1+T", x, 2, 2);
    }

    private static void bangs() {
        OnceProver x = Due.with("r:a", "w:b", "g:!a");
        heightIs("!a", x, 1, OnceProver.NONE);
        heightIs("!a", x, 0, OnceProver.NONE);
        Due.add(x, "g:!b");
        heightIs("!b", x, 0, 2);
        heightIs("!b", x, 1, OnceProver.NONE);
        Due.add(x, "g:(!b*a)");
        heightIs("!b*a", x, 1, 3);
        Due.add(x, "g:!T");
        heightIs("!T", x, 0, 2);
        heightIs("!T", x, 1, OnceProver.NONE);
    }

    private static void splits() {
        OnceProver x = Due.with("r:a", "r:b", "r:a|b", "g:(a*b)");
        heightIs("a*b", x, 3, 2);
        heightIs("a*b", x, 5, 2);
        heightIs("a*b", x, 6, 2);
        heightIs("a*b", x, 7, OnceProver.NONE);
        heightIs("a*b", x, 4, OnceProver.NONE);
        Due.add(x, "g:((a*T)*b)");
        heightIs("(a*T)*b", x, 7, 3);
        Due.add(x, "g:(1*1)");
        heightIs("1*1", x, 0, 2);
        heightIs("1*1", x, 1, OnceProver.NONE);
        OnceProver y = Due.with("r:a", "r:b", "r:c", "r:d", "r:e", "g:[f][g][h]((((a*b)*(c*d))*((e*f)*(g*h)))*1)");
        heightIs("all eight in one part", y, 31, 8);
        heightIs("all eight but one", y, 30, OnceProver.NONE);
        Due.add(y, "g:[f](((((a*b)*c)*(d*e))*f)*1)");
        heightIs("the lowest six in one part", y, 31, 7);
    }

    private static void pairs() {
        OnceProver x = Due.with("r:a|b", "r:c<a", "g:(a&b)");
        heightIs("a&b", x, 1, 2);
        heightIs("a&b", x, 3, OnceProver.NONE);
        Due.add(x, "g:(a&c)");
        heightIs("a&c", x, 3, OnceProver.NONE);
        Due.add(x, "g:(a+c)");
        heightIs("a+c", x, 1, 2);
        heightIs("a+c", x, 3, 3);
        Due.add(x, "g:(d+(c&T))");
        heightIs("d+(c&T)", x, 3, 4);
    }

    private static void loans() {
        OnceProver x = Due.with("g:[a]a");
        heightIs("[a]a", x, 0, 2);
        Due.add(x, "g:[a]1");
        heightIs("[a]1", x, 0, OnceProver.NONE);
        Due.add(x, "g:[a][b][c]((a*b)*c)");
        heightIs("three loans", x, 0, 6);
        Due.add(x, "g:[a]T");
        heightIs("[a]T", x, 0, 2);
        x.drop(2, 0);
        Due.add(x, "w:a<[b]a", "w:a<(b*b)", "g:a");
        heightIs("a loan that is busy already", x, 0, OnceProver.NONE);
        Due.add(x, "r:b");
        heightIs("a loan and a resource", x, 1, 5);
        OnceProver y = Due.with("r:b", "g:[a<b]([c]c*a)");
        heightIs("[a<b]([c]c*a)", y, 1, 4);
        heightIs("[a<b]([c]c*a)", y, 0, OnceProver.NONE);
    }

    private static void limitOfHeight() {
        OnceProver x = Due.with("g:!!!!!!!!!1");
        heightIs("nine ! and 1", x, 0, 10);
        Due.add(x, "g:!!!!!!!!!!1");
        heightIs("ten ! and 1", x, 0, OnceProver.NONE);
        Due.is("left(10, -1)", x.left(10, -1), 0);
        OnceProver y = Due.with("w:a<a", "w:a<b", "r:b", "g:a");
        heightIs("the shortest way", y, 1, 2);
    }

    private static void changes() {
        OnceProver x = Due.with("r:a", "w:b<a", "g:b");
        heightIs("b", x, 1, 2);
        x.drop(1, 0);
        heightIs("b without its well", x, 1, OnceProver.NONE);
        Due.add(x, "w:b|b<c");
        heightIs("b with another well", x, 0, 1);
        heightIs("b with another well", x, 1, OnceProver.NONE);
        Due.add(x, "r:b<a");
        heightIs("b with another resource", x, 3, 2);
    }

    private static void leftIs(String what, OnceProver x, int h, int... want) {
        Due.is(what + ": left(" + h + ", -1)", x.left(h, -1), want.length);
        for (int i = 0; i < want.length; i++) {
            Due.is(what + ": left(" + h + ", " + i + ")", x.left(h, i), want[i]);
        }
        Due.is(what + ": left behind the last", x.left(h, want.length), OnceProver.NONE);
        Due.is(what + ": left far behind the last", x.left(h, Integer.MAX_VALUE), OnceProver.NONE);
    }

    private static void leftSets() {
        OnceProver x = Due.with("r:a", "r:b<a", "r:a", "g:(a+b)");
        leftIs("a+b", x, 0);
        leftIs("a+b", x, 1);
        leftIs("a+b", x, 2, 3, 6);
        leftIs("a+b", x, 3, 1, 3, 4, 6);
        leftIs("a+b", x, 10, 1, 3, 4, 6);
        x.drop(0, 1);
        leftIs("a+b without 1", x, 3, 1, 4);
        Due.add(x, "g:T");
        leftIs("T", x, 1, 0, 1, 4, 5);
        leftIs("T", x, 0);
        Due.add(x, "g:h");
        leftIs("h", x, 10);
        OnceProver y = Due.with("r:a", "r:a", "r:a", "r:a", "r:a", "g:T");
        Due.is("all sets", y.left(10, -1), 32);
        Due.is("the last set", y.left(10, 31), 31);
    }

    private static void fewestSets() {
        OnceProver x = Due.with("r:a<(b*b)", "r:b", "r:b", "r:a", "r:a<1", "g:a");
        Due.is("fewest: one of two", x.fewest(), 8);
        x.drop(0, 3);
        Due.is("fewest: another", x.fewest(), 16);
        x.drop(0, 4);
        Due.is("fewest: three", x.fewest(), 7);
        Due.add(x, "r:c<b", "r:a<c");
        Due.is("fewest: as many, but lower", x.fewest(), 7);
        x.drop(0, 0);
        Due.is("fewest: lowest mask", x.fewest(), 26);
        Due.add(x, "g:h");
        Due.is("fewest: none", x.fewest(), OnceProver.NONE);
        Due.add(x, "g:T");
        Due.is("fewest: the empty set", x.fewest(), 0);
        OnceProver five = Due.with("r:a", "r:b", "r:c", "r:d", "r:e", "g:(a*(b*(c*(d*e))))");
        Due.is("fewest: all five", five.fewest(), 31);
        Due.is("needed: all five", five.needed(), 31);
        OnceProver y = Due.with("r:b", "r:c<b", "r:a<c", "r:a<d", "r:d", "g:a");
        Due.is("fewest: a greater mask with fewer", y.fewest(), 24);
        Due.is("fewest without a goal", new OnceProver().fewest(), OnceProver.STATE);
    }

    private static void neededSets() {
        OnceProver x = Due.with("r:a", "r:b|c", "g:(a*b)");
        Due.is("needed: both", x.needed(), 3);
        Due.add(x, "g:((a+1)*(b+1))");
        Due.is("needed: none", x.needed(), 0);
        Due.add(x, "g:(a*T)");
        Due.is("needed: one", x.needed(), 1);
        Due.add(x, "g:a");
        Due.is("needed: all but what is in the way", x.needed(), 1);
        Due.add(x, "g:h");
        Due.is("needed: without a proof all", x.needed(), 3);
        x.drop(0, 0);
        Due.is("needed: only what is there", x.needed(), 2);
        Due.is("needed without a goal", new OnceProver().needed(), OnceProver.STATE);
        Due.is("needed without resources", Due.with("g:h").needed(), 0);
    }

    private static void wrongInputs() {
        OnceProver x = Due.with("r:a", "r:b", "w:c");
        Due.is("height(3)", x.height(3), OnceProver.STATE);
        Due.is("height(4) before STATE", x.height(4), OnceProver.UNKNOWN);
        Due.is("left(1, 0)", x.left(1, 0), OnceProver.STATE);
        Due.is("left(-1, 0) before STATE", x.left(-1, 0), OnceProver.OUTSIDE);
        Due.is("left(1, -2) before STATE", x.left(1, -2), OnceProver.OUTSIDE);
        Due.add(x, "g:a");
        Due.is("height(4)", x.height(4), OnceProver.UNKNOWN);
        Due.is("height(32)", x.height(32), OnceProver.UNKNOWN);
        Due.is("height(-1)", x.height(-1), OnceProver.UNKNOWN);
        Due.is("height(min)", x.height(Integer.MIN_VALUE), OnceProver.UNKNOWN);
        Due.is("height(257)", x.height(257), OnceProver.UNKNOWN);
        x.drop(0, 0);
        Due.is("height(1) of a dropped one", x.height(1), OnceProver.UNKNOWN);
        Due.is("left(11, 0)", x.left(11, 0), OnceProver.OUTSIDE);
        Due.is("left(-1, 0)", x.left(-1, 0), OnceProver.OUTSIDE);
        Due.is("left(10, -2)", x.left(10, -2), OnceProver.OUTSIDE);
        Due.is("left(0, 5)", x.left(0, 5), OnceProver.NONE);
        Due.is("a loan is no resource", Due.with("g:[a]a").height(32), OnceProver.UNKNOWN);
    }
}
