/** Promises 16 to 18: the trial and its check. */
public final class TrialTest {
    private static final int PROOF = 0, HIGH = 1, SHORT = 2, WRONG = 3, LEFT = 4, BUSY = 5, LONG = 6;

    public static void main(String[] args) {
        puts();
        trials();
        checkErrors();
        proofs();
        high();
        tooShort();
        wrong();
        left();
        busy();
        tooLong();
        order();
        Due.end();
    }

    private static void puts() {
        OnceProver x = new OnceProver();
        Due.is("put(-1)", x.put(-1), OnceProver.OUTSIDE);
        Due.is("put(500)", x.put(500), OnceProver.OUTSIDE);
        Due.is("put(min)", x.put(Integer.MIN_VALUE), OnceProver.OUTSIDE);
        Due.is("put(max)", x.put(Integer.MAX_VALUE), OnceProver.OUTSIDE);
        Due.is("put(0)", x.put(0), 1);
        for (int i = 2; i <= 60; i++) {
            Due.is("put " + i, x.put(499), i);
        }
        Due.is("put 61", x.put(0), OnceProver.FULL);
        Due.is("put(500) when full", x.put(500), OnceProver.OUTSIDE);
        Due.is("count(6)", x.count(6), 60);
        Due.is("trial(0)", x.trial(0), 0);
        Due.is("count(6)", x.count(6), 0);
        Due.is("put(7)", x.put(7), 1);
    }

    private static void trials() {
        OnceProver x = new OnceProver();
        x.put(3);
        Due.is("trial(-1)", x.trial(-1), OnceProver.OUTSIDE);
        Due.is("trial(2)", x.trial(2), OnceProver.OUTSIDE);
        Due.is("trial(1)", x.trial(1), OnceProver.STATE);
        Due.is("count(6)", x.count(6), 1);
        Due.add(x, "r:a", "g:h");
        Due.is("trial(1) without a proof", x.trial(1), 0);
        Due.add(x, "g:(a&a)");
        x.put(9);
        Due.is("trial(1)", x.trial(1), 2);
        Due.checks("trial(1)", x, PROOF, 2, 2);
        Due.is("put(5)", x.put(5), 3);
        x.drop(2, 0);
        Due.is("trial(1) without a goal", x.trial(1), OnceProver.STATE);
        Due.is("count(6)", x.count(6), 3);
        Due.is("trial(0) without a goal", x.trial(0), 0);
    }

    private static void checkErrors() {
        OnceProver x = new OnceProver();
        Due.is("check(3)", x.check(3), OnceProver.OUTSIDE);
        Due.is("check(-1)", x.check(-1), OnceProver.OUTSIDE);
        for (int what = 0; what <= 2; what++) {
            Due.is("check without a goal", x.check(what), OnceProver.STATE);
        }
        Due.add(x, "g:1");
        Due.is("check(3)", x.check(3), OnceProver.OUTSIDE);
        Due.checks("1", x, PROOF, 0, 1);
    }

    /** Puts the numbers to what the texts tell. */
    private static void checks(String texts, int[] numbers, int verdict, int used, int deepest) {
        OnceProver x = Due.with(texts.split(" "));
        Due.puts(x, numbers);
        Due.checks(texts, x, verdict, used, deepest);
    }

    private static int[] row(int... numbers) {
        return numbers;
    }

    private static void proofs() {
        checks("g:T", row(), PROOF, 0, 1);
        checks("r:a r:b g:T", row(), PROOF, 0, 1);
        checks("g:!T", row(), PROOF, 0, 2);
        checks("r:a g:a", row(0), PROOF, 1, 1);
        checks("r:b|b|a<c r:c g:a", row(2, 10), PROOF, 2, 2);
        checks("w:b w:a|a<b g:a", row(111, 100), PROOF, 2, 2);
        checks("w:b w:a|a<b g:a", row(110), PROOF, 1, 1);
        checks("r:a r:b g:(a*b)", row(201, 0, 10), PROOF, 3, 2);
        checks("r:a r:b g:(b*a)", row(202, 10, 0), PROOF, 3, 2);
        checks("r:a|b g:(a&b)", row(0, 1), PROOF, 2, 2);
        checks("r:a|b g:(a+b)", row(300, 0), PROOF, 2, 2);
        checks("r:a|b g:(a+b)", row(301, 1), PROOF, 2, 2);
        checks("r:a g:(1+(T+a))", row(301, 301, 0), PROOF, 3, 3);
        checks("g:[a]a", row(50), PROOF, 1, 2);
        checks("r:c g:[b][c](a*T)", row(300), WRONG, 0, 3);
        checks("w:a r:c g:[b][c](a*T)", row(200, 100), PROOF, 2, 4);
        checks("r:a g:[b][c](T*(a*(b*c)))", row(200, 201, 0, 232, 50, 60), PROOF, 6, 6);
    }

    private static void high() {
        checks("g:!!!!!!!!!!!1", row(), PROOF, 0, 12);
        checks("g:!!!!!!!!!!!!1", row(), HIGH, 0, 12);
        checks("w:a<a|a g:a", row(100, 100, 100, 100, 100, 100, 100, 100, 100, 100, 100, 101), PROOF, 12, 12);
        checks("w:a<a|a g:a", row(100, 100, 100, 100, 100, 100, 100, 100, 100, 100, 100, 100), HIGH, 12, 12);
        checks("w:a<a|a g:a", row(100, 100, 100, 100, 100, 100, 100, 100, 100, 100, 100, 100, 499), HIGH, 12, 12);
        checks("w:a<a|b<1 r:h g:a", row(100, 100, 100, 100, 100, 100, 100, 100, 100, 100, 100), SHORT, 11, 12);
        checks("w:a<a|a<1 r:h g:a", row(100, 100, 100, 100, 100, 100, 100, 100, 100, 100, 100, 101), HIGH, 12, 12);
        checks("w:a<a|a<1 r:h g:a", row(100, 100, 100, 100, 100, 100, 100, 100, 100, 100, 101), LEFT, 11, 12);
        checks("w:a<a|a<[b]b g:a", row(100, 100, 100, 100, 100, 100, 100, 100, 100, 100, 101, 50), HIGH, 11, 12);
        checks("w:a<a|a<[b]b g:a", row(100, 100, 100, 100, 100, 100, 100, 100, 100, 101, 50), PROOF, 11, 12);
    }

    private static void tooShort() {
        checks("r:a g:a", row(), SHORT, 0, 1);
        checks("g:a", row(), SHORT, 0, 1);
        checks("g:(a*b)", row(), SHORT, 0, 1);
        checks("g:(a+b)", row(), SHORT, 0, 1);
        checks("g:(1+T)", row(), SHORT, 0, 1);
        checks("r:a g:(a&a)", row(0), SHORT, 1, 2);
        checks("r:a r:b g:(a*b)", row(201, 0), SHORT, 2, 2);
        checks("r:a<b g:a", row(0), SHORT, 1, 2);
        checks("g:[a]a", row(), SHORT, 0, 2);
    }

    private static void wrong() {
        checks("r:a g:a", row(200), WRONG, 0, 1);
        checks("r:a g:a", row(300), WRONG, 0, 1);
        checks("r:a g:a", row(1), WRONG, 0, 1);
        checks("r:a g:a", row(3), WRONG, 0, 1);
        checks("r:a g:a", row(9), WRONG, 0, 1);
        checks("r:a g:a", row(10), WRONG, 0, 1);
        checks("r:a g:a", row(50), WRONG, 0, 1);
        checks("r:a g:a", row(80), WRONG, 0, 1);
        checks("r:a g:a", row(99), WRONG, 0, 1);
        checks("r:a g:a", row(100), WRONG, 0, 1);
        checks("r:a g:a", row(499), WRONG, 0, 1);
        checks("r:b g:a", row(0), WRONG, 0, 1);
        checks("r:a|b|a<1 g:a", row(1), WRONG, 0, 1);
        checks("w:a r:a g:a", row(140), WRONG, 0, 1);
        checks("w:a g:a", row(101), WRONG, 0, 1);
        checks("w:a g:a", row(110), WRONG, 0, 1);
        checks("w:a g:a", row(180), WRONG, 0, 1);
        checks("w:a g:a", row(80), WRONG, 0, 1);
        checks("w:a w:a w:a w:a g:a", row(140), WRONG, 0, 1);
        checks("w:b g:a", row(100), WRONG, 0, 1);
        checks("r:a<a g:a", row(0, 0), WRONG, 1, 2);
        checks("r:a r:a g:(a*a)", row(201, 10), WRONG, 1, 2);
        checks("r:a r:a g:(a*a)", row(204), WRONG, 0, 1);
        checks("r:a r:a g:(a*a)", row(10), WRONG, 0, 1);
        checks("r:a r:a g:(a*a)", row(199), WRONG, 0, 1);
        checks("r:a r:a g:(a*a)", row(300), WRONG, 0, 1);
        checks("r:a r:a g:(a*a)", row(456), WRONG, 0, 1);
        checks("r:a r:a g:(a*a)", row(459), WRONG, 0, 1);
        checks("r:a r:a g:(a*a)", row(499), WRONG, 0, 1);
        checks("g:[b](1*b)", row(232), LEFT, 1, 3);
        checks("g:[b](1*b)", row(264), WRONG, 0, 2);
        checks("r:a g:(a+a)", row(302), WRONG, 0, 1);
        checks("r:a g:(a+a)", row(299), WRONG, 0, 1);
        checks("r:a g:(a+a)", row(0), WRONG, 0, 1);
        checks("r:a<[b]c w:c|b g:a", row(0, 100), LEFT, 2, 3);
        checks("r:a<[b]c g:(a+b)", row(301, 50), WRONG, 1, 2);
        checks("r:a<c r:b g:a", row(0, 10), WRONG, 1, 2);
    }

    private static void left() {
        checks("r:a g:1", row(), LEFT, 0, 1);
        checks("r:a g:!1", row(), LEFT, 0, 1);
        checks("r:a g:!a", row(0), LEFT, 0, 1);
        checks("r:a r:b g:a", row(0), LEFT, 1, 1);
        checks("r:a w:b g:b", row(100), LEFT, 1, 1);
        checks("r:a r:b g:a", row(0, 7), LEFT, 1, 1);
        checks("r:a<1 r:b g:a", row(0), LEFT, 1, 2);
        checks("g:[a]1", row(), LEFT, 0, 2);
        checks("r:a g:(1*a)", row(201), LEFT, 1, 2);
        checks("r:a g:(!1*T)", row(200), PROOF, 1, 3);
    }

    private static void busy() {
        checks("w:a<[b]a|a<(b*b) g:a", row(100, 100, 101), BUSY, 2, 4);
        checks("w:a<[b]a|a<(b*b) g:a", row(100, 100), BUSY, 2, 4);
        checks("w:a<[b](b*a)|a<T g:a", row(100, 232, 50, 100, 232, 50, 101), PROOF, 7, 8);
        checks("w:a<[b](b*a)|a<T g:a", row(100, 200, 50), WRONG, 2, 4);
    }

    private static void tooLong() {
        checks("g:1", row(0), LONG, 0, 1);
        checks("r:a g:a", row(0, 0), LONG, 1, 1);
        checks("r:a g:(a&T)", row(0, 200, 3), LONG, 1, 2);
    }

    private static void order() {
        checks("r:a g:(1&a)", row(0), LEFT, 0, 2);
        checks("r:a g:(a&1)", row(0), LEFT, 1, 2);
        checks("r:a g:(a&1)", row(), SHORT, 0, 2);
        checks("r:a g:(T&(a&b))", row(0, 0), WRONG, 1, 3);
        checks("r:a g:(T*!b)", row(201, 0), WRONG, 1, 3);
        checks("r:a g:((T&!!T)*(T+!h))", row(201), LEFT, 1, 3);
        checks("w:a<((a&a)&(b&1))|b g:a", row(100, 100, 1), WRONG, 2, 7);
    }
}
