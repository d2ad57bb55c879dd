/** The dearest calls, as many as an object is used for: each has to come back in good time. */
public final class LoadTest {
    private static final int CALLS = 512;

    public static void main(String[] args) {
        manySplits();
        manyTurns();
        deepTexts();
        longTrial();
        Due.end();
    }

    /** How many calls it takes to read the texts. */
    private static int callsFor(String... texts) {
        int calls = 0;
        for (String text : texts) {
            calls += text.substring(2).length() + 1;
        }
        return calls;
    }

    private static void manySplits() {
        String[] texts = {"r:a", "r:a|a", "r:a<(a*(a*a))", "r:a|a<T", "r:a<(a*a)|a",
            "w:a|a<(a*a)|a<((a*a)*(a*a))", "w:a<(((T*a)*(a*T))*((a*T)*(T*a)))|a<(T*T)",
            "g:[a][a|a][a](((a*a)*(a*a))*((a*a)*((a*a)*(a*a))))"};
        OnceProver x = Due.with(texts);
        x.image(0);
        for (int calls = callsFor(texts) + 1; calls + 3 <= CALLS; calls += 2) {
            Due.is("restore(0)", x.restore(0), 1);
            Due.is("ways(31, 10)", x.ways(31, 10), OnceProver.MANY);
        }
        Due.is("needed()", x.needed(), 0);
    }

    private static void manyTurns() {
        String[] texts = {"w:a<b|a<a|a<c", "w:b<a|b<b|b<c", "w:c<(a*b)|c<a|c<b", "w:c<[a]c|c<[b]c|c<[c]c",
            "r:a", "r:b", "r:c", "r:a|b|c", "r:c|b|a", "g:((a*b)*(c*(a+(b*c))))"};
        OnceProver x = Due.with(texts);
        x.image(0);
        for (int calls = callsFor(texts) + 1; calls + 3 <= CALLS; calls += 3) {
            Due.is("restore(0)", x.restore(0), 1);
            Due.is("left(10, -1)", x.left(10, -1) >= 0 ? 1 : 0, 1);
            Due.is("ways(31, 10)", x.ways(31, 10) >= 0 ? 1 : 0, 1);
        }
    }

    private static void deepTexts() {
        for (String part : new String[] {"(", "!", "[a<", "[a]"}) {
            OnceProver x = new OnceProver();
            Due.say(x, part.repeat(60 / part.length()));
            for (int calls = 60; calls + 2 <= CALLS; calls++) {
                Due.is("goal()", x.goal(), OnceProver.FAULT);
            }
            Due.is("fault()", x.fault(), 60);
        }
    }

    private static void longTrial() {
        String[] texts = {"w:a<((T&T)&((T&T)&((T&T)&((T&T)&(T&a)))))|a", "g:(a*(a*a))"};
        OnceProver x = Due.with(texts);
        for (int i = 0; i < 60; i++) {
            x.put(100);
        }
        for (int calls = callsFor(texts) + 60; calls + 1 <= CALLS; calls++) {
            Due.is("check(0)", x.check(0), 3);
        }
    }
}
