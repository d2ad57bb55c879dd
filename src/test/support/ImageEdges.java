/** The sentences of the promises 19 to 21. */
final class ImageEdges {
    private ImageEdges() {
    }

    /** Resources and wells that are there, whether there is a goal, nodes, characters [. */
    private static void holds(String what, OnceProver x, int... counts) {
        for (int i = 0; i < counts.length; i++) {
            Due.is(what + ": count(" + i + ")", x.count(i), counts[i]);
        }
    }

    @Says(of = "Promise 19", words = "Saves resources, wells and goal in a place,")
    static void imageSaves() {
        OnceProver x = Due.with("r:a", "r:b<[a]a", "w:c", "w:d<1", "g:(a*T)");
        x.drop(0, 0);
        x.drop(1, 0);
        x.image(1);
        x.drop(0, 1);
        x.drop(1, 1);
        x.drop(2, 0);
        holds("nothing", x, 0, 0, 0, 0, 0);
        x.restore(1);
        holds("what was saved", x, 2, 2, 1, 6, 1);
        Due.is("height(2)", x.height(2), Due.NONE);
        Due.add(x, "g:b");
        Due.is("height(2) of another goal", x.height(2), 3);
    }

    @Says(of = "Promise 19", words = "instead of what was saved there.")
    static void imageReplaces() {
        OnceProver x = Due.with("r:a", "r:a", "g:T");
        x.image(0);
        x.drop(0, 0);
        x.drop(2, 0);
        x.image(0);
        Due.add(x, "r:a", "w:a", "g:1");
        Due.is("restore(0)", x.restore(0), 1);
        holds("the latter", x, 2, 0, 0, 0, 0);
        x.drop(0, 1);
        x.image(0);
        Due.add(x, "r:a", "w:a", "g:1");
        Due.is("restore(0)", x.restore(0), 1);
        holds("nothing at all", x, 0, 0, 0, 0, 0);
    }

    @Says(of = "Promise 19", words = "`k`: the place, 0 or 1")
    static void imagePlaces() {
        OnceProver x = Due.with("g:1");
        Due.is("image(0)", x.image(0), 1);
        Due.add(x, "g:!1");
        Due.is("image(1)", x.image(1), 1);
        x.restore(0);
        Due.is("place 0", x.height(0), 1);
        x.restore(1);
        Due.is("place 1", x.height(0), 2);
    }

    @Says(of = "Promise 19", words = "Returns 1;")
    static void imageReturns() {
        OnceProver x = new OnceProver();
        Due.is("image(0) of nothing", x.image(0), 1);
        Due.is("image(0) again", x.image(0), 1);
        Due.add(x, "r:a", "r:b");
        Due.is("image(1) of something", x.image(1), 1);
    }

    @Says(of = "Promise 19", words = "OUTSIDE if k is not 0 or 1.")
    static void imageOutside() {
        OnceProver x = Due.with("r:a");
        for (int k : new int[] {Integer.MIN_VALUE, -1, 2, Integer.MAX_VALUE}) {
            Due.is("image(" + k + ")", x.image(k), Due.OUTSIDE);
        }
        Due.is("count(7)", x.count(7), 0);
    }

    @Says(of = "Promise 20", words = "Restores resources, wells and goal from a place;")
    static void restoreRestores() {
        OnceProver x = Due.with("r:a", "w:b<a", "g:b");
        x.image(0);
        Due.add(x, "r:c", "w:c", "g:[d](c*d)");
        Due.is("height(2) before", x.height(2), 3);
        Due.is("term(0) before", x.term(0), Due.NONE);
        x.restore(0);
        holds("what was saved", x, 1, 1, 1, 2, 0);
        Due.is("height(1)", x.height(1), 2);
        Due.is("height(2)", x.height(2), Due.UNKNOWN);
        Due.is("ways(1, 10)", x.ways(1, 10), 1);
        Due.same("the code", Due.code(x), "100,0");
        x.say('a');
        Due.is("the lowest free number", x.resource(), 1);
    }

    @Says(of = "Promise 20", words = "they stay saved there.")
    static void restoreKeeps() {
        OnceProver x = Due.with("r:a", "w:a", "g:a");
        x.image(0);
        for (int i = 0; i < 3; i++) {
            Due.is("restore(0)", x.restore(0), 1);
            holds("what was saved", x, 1, 1, 1, 1, 0);
            Due.is("count(7)", x.count(7), 1);
            x.drop(0, 0);
            x.drop(1, 0);
            Due.add(x, "g:!1", "r:b", "r:b", "w:b<1");
        }
    }

    @Says(of = "Promise 20", words = "The text and the trial stay.")
    static void restoreLeavesTextAndTrial() {
        OnceProver x = Due.with("r:a", "g:a");
        Due.say(x, "(b");
        x.put(5);
        x.image(0);
        Due.say(x, "*b)");
        x.put(0);
        x.put(7);
        Due.is("restore(0)", x.restore(0), 1);
        Due.is("count(5)", x.count(5), 5);
        Due.is("count(6)", x.count(6), 3);
        Due.is("the goal from the text", x.goal(), 3);
        x.wipe();
        x.trial(0);
        Due.is("restore(0)", x.restore(0), 1);
        Due.is("count(5) of the empty text", x.count(5), 0);
        Due.is("count(6) of the empty trial", x.count(6), 0);
        x.put(0);
        x.restore(0);
        Due.is("check(0)", x.check(0), 0);
    }

    @Says(of = "Promise 20", words = "`k`: the place, 0 or 1")
    static void restorePlaces() {
        OnceProver x = Due.with("r:a");
        x.image(1);
        Due.add(x, "r:a");
        x.image(0);
        Due.is("restore(1)", x.restore(1), 1);
        Due.is("count(0)", x.count(0), 1);
        Due.is("restore(0)", x.restore(0), 1);
        Due.is("count(0)", x.count(0), 3);
    }

    @Says(of = "Promise 20", words = "Returns 1;")
    static void restoreReturns() {
        OnceProver x = new OnceProver();
        x.image(0);
        Due.add(x, "r:a");
        Due.is("restore(0) of nothing at all", x.restore(0), 1);
        Due.is("count(0)", x.count(0), 0);
    }

    @Says(of = "Promise 20", words = "OUTSIDE if k is not 0 or 1;")
    static void restoreOutside() {
        OnceProver x = Due.with("r:a");
        x.image(0);
        x.image(1);
        Due.add(x, "r:a");
        for (int k : new int[] {Integer.MIN_VALUE, -1, 2, Integer.MAX_VALUE}) {
            Due.is("restore(" + k + ")", x.restore(k), Due.OUTSIDE);
        }
        Due.is("count(0)", x.count(0), 3);
    }

    @Says(of = "Promise 20", words = "STATE if nothing is saved there.")
    static void restoreState() {
        OnceProver x = Due.with("r:a");
        Due.is("restore(0)", x.restore(0), Due.STATE);
        x.image(1);
        Due.is("restore(0) with another image", x.restore(0), Due.STATE);
        Due.is("restore(1)", x.restore(1), 1);
        OnceProver y = new OnceProver();
        y.image(0);
        Due.is("restore(1) with another image", y.restore(1), Due.STATE);
        Due.is("count(0)", x.count(0), 1);
    }

    @Says(of = "Promise 21", words = "Returns a number.")
    static void countOfEachKind() {
        OnceProver x = Due.with("r:a", "r:a<[a]a", "w:a<a", "w:a", "w:a", "g:!a");
        Due.say(x, "1234");
        for (int i = 0; i < 9; i++) {
            x.put(i);
        }
        x.image(1);
        int[] counts = {3, 7, 1, 5, 1, 4, 9, 2};
        holds("each another number", x, counts);
    }

    @Says(of = "Promise 21", words = "`what`: 0: the set of the resources that are there;")
    static void countResources() {
        OnceProver x = Due.with("w:a", "g:a");
        Due.is("none", x.count(0), 0);
        Due.add(x, "r:a", "r:a", "r:a", "r:a", "r:a");
        Due.is("all five", x.count(0), 31);
        x.drop(0, 0);
        Due.is("without number 0", x.count(0), 30);
        x.drop(0, 4);
        Due.is("without number 4", x.count(0), 14);
    }

    @Says(of = "Promise 21", words = "1: the set of the wells that are there;")
    static void countWells() {
        OnceProver x = Due.with("r:a", "g:a");
        Due.is("none", x.count(1), 0);
        Due.add(x, "w:a", "w:a", "w:a", "w:a");
        Due.is("all four", x.count(1), 15);
        x.drop(1, 0);
        Due.is("without number 0", x.count(1), 14);
        x.drop(1, 3);
        Due.is("without number 3", x.count(1), 6);
    }

    @Says(of = "Promise 21", words = "2: 1 if there is a goal, else 0;")
    static void countGoal() {
        OnceProver x = Due.with("r:a", "w:a");
        Due.is("none", x.count(2), 0);
        Due.add(x, "g:(a*b)");
        Due.is("a goal", x.count(2), 1);
        Due.add(x, "g:1");
        Due.is("another goal", x.count(2), 1);
        x.drop(2, 0);
        Due.is("none again", x.count(2), 0);
    }

    @Says(of = "Promise 21", words = "3: the number of nodes of all of them;")
    static void countNodes() {
        OnceProver x = Due.with("r:a", "w:a|b");
        Due.is("none", x.count(3), 0);
        Due.add(x, "g:(a*!1)", "r:a<[b]c", "w:a<T");
        Due.is("from all three", x.count(3), 4 + 2 + 1);
        x.drop(2, 0);
        Due.is("without the goal", x.count(3), 3);
        Due.add(x, "g:" + "!".repeat(56) + "1");
        Due.is("as many as can be", x.count(3), 60);
        Due.say(x, "((((a*b)*");
        Due.is("the text does not count", x.count(3), 60);
    }

    @Says(of = "Promise 21", words = "4: the number of their characters [;")
    static void countBrackets() {
        OnceProver x = Due.with("r:a", "w:a", "g:a");
        Due.is("none", x.count(4), 0);
        Due.add(x, "r:a<[b]b", "w:a<[b]b", "g:[a]b");
        Due.is("as many as can be", x.count(4), 3);
        x.drop(0, 1);
        Due.is("without the resource", x.count(4), 2);
        Due.add(x, "g:[a<[b]b]b");
        Due.is("one in the other", x.count(4), 3);
        Due.say(x, "[[[[");
        Due.is("the text does not count", x.count(4), 3);
    }

    @Says(of = "Promise 21", words = "5: the length of the text;")
    static void countText() {
        OnceProver x = new OnceProver();
        Due.is("empty", x.count(5), 0);
        Due.say(x, "a".repeat(60));
        Due.is("full", x.count(5), 60);
        x.say('a');
        Due.is("after a say that is refused", x.count(5), 60);
        x.wipe();
        Due.is("wiped", x.count(5), 0);
    }

    @Says(of = "Promise 21", words = "6: how many numbers the trial has;")
    static void countTrial() {
        OnceProver x = new OnceProver();
        Due.is("empty", x.count(6), 0);
        for (int i = 0; i < 60; i++) {
            x.put(i);
        }
        Due.is("full", x.count(6), 60);
        x.put(0);
        Due.is("after a put that is refused", x.count(6), 60);
        x.trial(0);
        Due.is("empty again", x.count(6), 0);
    }

    @Says(of = "Promise 21", words = "7: the set of the places in which something is saved")
    static void countPlaces() {
        OnceProver x = Due.with("r:a");
        Due.is("none", x.count(7), 0);
        x.image(1);
        Due.is("place 1", x.count(7), 2);
        x.image(0);
        Due.is("both", x.count(7), 3);
        x.restore(0);
        Due.is("both stay", x.count(7), 3);
        OnceProver y = new OnceProver();
        y.image(0);
        Due.is("place 0, with nothing in the prover", y.count(7), 1);
    }

    @Says(of = "Promise 21", words = "Returns the number;")
    static void countReturns() {
        holds("of a new object", new OnceProver(), 0, 0, 0, 0, 0, 0, 0, 0);
    }

    @Says(of = "Promise 21", words = "OUTSIDE if what is not 0 to 7.")
    static void countOutside() {
        OnceProver x = Due.with("r:a", "w:a", "g:a");
        for (int what : new int[] {Integer.MIN_VALUE, -1, 8, 9, Integer.MAX_VALUE}) {
            Due.is("count(" + what + ")", x.count(what), Due.OUTSIDE);
        }
    }
}
