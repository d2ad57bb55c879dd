/** The dearest calls, as many as an object is used for: each has to come back in good time. */
public final class LoadTest {
    private static final int CALLS = 512;

    public static void main(String[] args) {
        manySplits();
        manyTurns();
        deepTexts();
        longTrial();
        Due.end();
    }

    private static void manySplits() {
        OnceProver x = Due.with("r:a", "r:a|a", "r:a<(a*(a*a))", "r:a|a<T", "r:a<(a*a)|a",
                "w:a|a<(a*a)|a<((a*a)*(a*a))", "w:a<(((T*a)*(a*T))*((a*T)*(T*a)))|a<(T*T)",
                "g:[a][a|a][a](((a*a)*(a*a))*((a*a)*((a*a)*(a*a))))");
        x.image(0);
        for (int i = 0; i < CALLS / 2 - 60; i++) {
            Due.is("restore(0)", x.restore(0), 1);
            Due.is("ways(31, 10)", x.ways(31, 10), OnceProver.MANY);
        }
        Due.is("needed()", x.needed(), 0);
    }

    private static void manyTurns() {
        OnceProver x = Due.with("w:a<b|a<a|a<c", "w:b<a|b<b|b<c", "w:c<(a*b)|c<a|c<b", "w:c<[a]c|c<[b]c|c<[c]c",
                "r:a", "r:b", "r:c", "r:a|b|c", "r:c|b|a", "g:((a*b)*(c*(a+(b*c))))");
        x.image(0);
        for (int i = 0; i < CALLS / 2 - 80; i++) {
            Due.is("restore(0)", x.restore(0), 1);
            Due.is("left(10, -1)", x.left(10, -1) >= 0 ? 1 : 0, 1);
            Due.is("ways(31, 10)", x.ways(31, 10) >= 0 ? 1 : 0, 1);
        }
    }

    private static void deepTexts() {
        for (int kind = 0; kind < 4; kind++) {
            String part = new String[] {"(", "!", "[a<", "[a]"}[kind];
            OnceProver x = new OnceProver();
            Due.say(x, part.repeat(60 / part.length()));
            for (int i = 60; i < CALLS; i++) {
                Due.is("goal()", x.goal(), OnceProver.FAULT);
            }
            Due.is("fault()", x.fault(), 60);
        }
    }

    private static void longTrial() {
        OnceProver x = Due.with("w:a<((T&T)&((T&T)&((T&T)&((T&T)&(T&a)))))|a", "g:(a*(a*a))");
        for (int i = 0; i < 60; i++) {
            x.put(100);
        }
        for (int i = 60; i < 400; i++) {
            Due.is("check(0)", x.check(0), 3);
        }
    }
}
