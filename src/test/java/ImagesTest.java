/** Promises 19 to 21: images, and what count tells. */
public final class ImagesTest {
    public static void main(String[] args) {
        places();
        whatIsSaved();
        whatIsNotSaved();
        emptyImage();
        independent();
        counts();
        Due.end();
    }

    private static void places() {
        OnceProver x = new OnceProver();
        Due.is("image(-1)", x.image(-1), OnceProver.OUTSIDE);
        Due.is("image(2)", x.image(2), OnceProver.OUTSIDE);
        Due.is("image(max)", x.image(Integer.MAX_VALUE), OnceProver.OUTSIDE);
        Due.is("restore(-1)", x.restore(-1), OnceProver.OUTSIDE);
        Due.is("restore(2)", x.restore(2), OnceProver.OUTSIDE);
        Due.is("restore(0)", x.restore(0), OnceProver.STATE);
        Due.is("count(7)", x.count(7), 0);
        Due.is("image(1)", x.image(1), 1);
        Due.is("count(7)", x.count(7), 2);
        Due.is("restore(0)", x.restore(0), OnceProver.STATE);
        Due.is("restore(1)", x.restore(1), 1);
        Due.is("image(0)", x.image(0), 1);
        Due.is("count(7)", x.count(7), 3);
        Due.is("restore(0)", x.restore(0), 1);
        Due.is("count(7)", x.count(7), 3);
    }

    private static void whatIsSaved() {
        OnceProver x = Due.with("r:a", "r:b<a", "w:c<b", "w:c<[d]d", "g:c");
        x.drop(0, 0);
        x.drop(1, 0);
        Due.add(x, "r:a|b");
        x.drop(0, 0);
        x.image(0);
        Due.is("height(0)", x.height(0), 3);
        Due.add(x, "r:a", "w:a", "g:[a](a*b)");
        Due.is("height(3)", x.height(3), 4);
        Due.is("height(2)", x.height(2), 4);
        Due.is("height(1)", x.height(1), OnceProver.NONE);
        x.image(1);
        Due.is("restore(0)", x.restore(0), 1);
        Due.is("count(0)", x.count(0), 2);
        Due.is("count(1)", x.count(1), 2);
        Due.is("count(3)", x.count(3), 4);
        Due.is("count(4)", x.count(4), 1);
        Due.is("height(0)", x.height(0), 3);
        Due.is("height(2)", x.height(2), OnceProver.NONE);
        Due.is("height(1)", x.height(1), OnceProver.UNKNOWN);
        Due.is("ways(0, 10)", x.ways(0, 10), 1);
        Due.is("restore(1)", x.restore(1), 1);
        Due.is("count(0)", x.count(0), 3);
        Due.is("height(2)", x.height(2), 4);
        Due.is("restore(0) again", x.restore(0), 1);
        Due.is("height(0)", x.height(0), 3);
        Due.same("the code", Due.code(x), "none");
        x.drop(0, 1);
        Due.same("the code", Due.code(x), "110,50");
    }

    private static void whatIsNotSaved() {
        OnceProver x = Due.with("r:a", "g:a");
        Due.say(x, "(a*");
        x.put(1);
        x.goal();
        x.image(0);
        Due.is("text stays at image", x.count(5), 3);
        Due.say(x, "b)");
        x.put(2);
        x.wipe();
        Due.say(x, "<");
        x.goal();
        Due.is("restore(0)", x.restore(0), 1);
        Due.is("the text stays", x.count(5), 1);
        Due.is("the trial stays", x.count(6), 2);
        Due.is("the fault stays", x.fault(), 0);
        Due.is("height(1)", x.height(1), 1);
    }

    private static void emptyImage() {
        OnceProver x = new OnceProver();
        x.image(0);
        Due.add(x, "r:a", "w:b", "g:c");
        Due.is("restore(0) of nothing", x.restore(0), 1);
        for (int what = 0; what <= 4; what++) {
            Due.is("count(" + what + ")", x.count(what), 0);
        }
        Due.is("height(0)", x.height(0), OnceProver.STATE);
    }

    private static void independent() {
        OnceProver x = Due.with("r:a", "g:a");
        x.image(0);
        x.drop(0, 0);
        x.drop(2, 0);
        x.image(1);
        Due.is("restore(0)", x.restore(0), 1);
        Due.is("height(1)", x.height(1), 1);
        x.drop(0, 0);
        Due.add(x, "r:b");
        Due.is("height(1)", x.height(1), OnceProver.NONE);
        x.restore(0);
        Due.is("what is saved does not change", x.height(1), 1);
        x.restore(1);
        Due.is("count(2)", x.count(2), 0);
        Due.add(x, "g:T");
        x.image(0);
        x.restore(1);
        x.restore(0);
        Due.is("instead of what was saved", x.count(0), 0);
        Due.is("instead of what was saved", x.height(0), 1);
        OnceProver y = new OnceProver();
        Due.is("another object", y.count(7), 0);
    }

    private static void counts() {
        OnceProver x = Due.with("r:a<[b]c", "r:a<1", "r:b", "w:a", "w:b<T", "g:([a]1&!b)");
        x.drop(0, 1);
        x.drop(1, 0);
        x.say('a');
        x.say('b');
        x.put(4);
        x.image(1);
        int[] want = {5, 2, 1, 8, 2, 2, 1, 2};
        for (int what = 0; what < want.length; what++) {
            Due.is("count(" + what + ")", x.count(what), want[what]);
        }
        Due.is("count(-1)", x.count(-1), OnceProver.OUTSIDE);
        Due.is("count(8)", x.count(8), OnceProver.OUTSIDE);
        Due.is("count(min)", x.count(Integer.MIN_VALUE), OnceProver.OUTSIDE);
    }
}
