import java.util.Arrays;

/** The sentences of the section "Trials" and of the promises 16 to 18. */
final class TrialEdges {
    private static final int PROOF = 0, HIGH = 1, SHORT = 2, WRONG = 3, LEFT = 4, BUSY = 5, LONG = 6;

    private TrialEdges() {
    }

    private static int[] row(int... numbers) {
        return numbers;
    }

    /** The same number, as often as told, and a last one. */
    private static int[] rowOf(int times, int number, int last) {
        int[] row = new int[times + 1];
        Arrays.fill(row, number);
        row[times] = last;
        return row;
    }

    /** Puts the numbers to what the texts tell. */
    private static void checks(String texts, int[] numbers, int verdict, int used, int deepest) {
        OnceProver x = Due.with(texts.split(" "));
        Due.puts(x, numbers);
        Due.checks(texts, x, verdict, used, deepest);
    }

    private static void verdictIs(String texts, int[] numbers, int verdict) {
        OnceProver x = Due.with(texts.split(" "));
        Due.puts(x, numbers);
        Due.is(texts + ": check(0)", x.check(0), verdict);
    }

    @Says(of = "Trials", words = "The trial is a sequence of at most 60 numbers")
    static void sixtyNumbers() {
        OnceProver x = Due.with("w:b", "w:a<(((b&b)&(b&b))&((b&b)&(b&b)))",
                "g:(((a&a)&(a&a))&((a&a)&(b&(b&(b&(b&(b&b)))))))");
        for (int i = 1; i <= 60; i++) {
            Due.is("put " + i, x.put(i <= 54 && i % 9 == 1 ? 110 : 100), i);
        }
        Due.checks("a proof of 60 numbers", x, PROOF, 60, 8);
        Due.is("put 61", x.put(100), Due.FULL);
        Due.is("count(6)", x.count(6), 60);
    }

    @Says(of = "Trials", words = "from 0 to 499.")
    static void numbersOfTheTrial() {
        OnceProver x = new OnceProver();
        Due.is("put(0)", x.put(0), 1);
        Due.is("put(499)", x.put(499), 2);
        Due.is("put(-1)", x.put(-1), Due.OUTSIDE);
        Due.is("put(500)", x.put(500), Due.OUTSIDE);
    }

    @Says(of = "Trials", words = "the number is none that can stand for this goal:")
    static void greatestNumbersThatCanStand() {
        checks("g:[a][b][c|d|e](a*(b*e))", row(232, 50, 264, 60, 72), PROOF, 5, 6);
        checks("w:a w:a w:a w:a|b|c g:c", row(132), PROOF, 1, 1);
        checks("r:a r:a r:a r:a r:b|c|a g:(T*a)", row(215, 42), PROOF, 2, 2);
        checks("r:a r:a r:a r:a r:a g:[a][a][a](T*1)", row(455), PROOF, 1, 5);
    }

    @Says(of = "Trials", words = "It is checked as the code of a proof of the goal from all resources,")
    static void fromAllResources() {
        verdictIs("r:a g:a", row(0), PROOF);
        verdictIs("r:a r:b g:a", row(0), LEFT);
        verdictIs("r:a r:b g:(a*T)", row(201, 0), PROOF);
        verdictIs("g:T", row(), PROOF);
        verdictIs("r:a r:a r:a r:a r:a g:(T*(a*1))", row(215, 216, 40), PROOF);
    }

    @Says(of = "Trials", words = "without a limit of the height other than number 1 below.")
    static void noOtherLimitOfTheHeight() {
        for (int height = 10; height <= 12; height++) {
            OnceProver x = Due.with("g:" + "!".repeat(height - 1) + "1");
            Due.is("height(0)", x.height(0), height <= 10 ? 10 : Due.NONE);
            Due.checks("height " + height, x, PROOF, 0, height);
        }
        checks("w:a<a|a g:a", rowOf(10, 100, 101), PROOF, 11, 11);
        checks("w:a<a|a g:a", rowOf(11, 100, 101), PROOF, 12, 12);
    }

    @Says(of = "Trials", words = "The goals of the proof are gone through in the order in which a code tells them.")
    static void orderOfTheGoals() {
        checks("r:b|a g:(a&b)", row(1, 0), PROOF, 2, 2);
        checks("r:b|a g:(a&b)", row(0, 1), WRONG, 0, 2);
        checks("r:a r:b g:(a*b)", row(201, 0, 10), PROOF, 3, 2);
        checks("r:a r:b g:(a*b)", row(201, 10, 0), WRONG, 1, 2);
        checks("r:a g:(1&b)", row(0), LEFT, 0, 2);
        checks("r:a g:(b&1)", row(0), WRONG, 0, 2);
        checks("r:a g:(!!1&b)", row(), LEFT, 0, 2);
        checks("r:a<(b&c) w:b w:c g:(a&d)", row(0, 100, 110, 0), WRONG, 3, 4);
    }

    @Says(of = "Trials", words = "The goal itself has the depth 1;")
    static void depthOfTheGoal() {
        checks("g:1", row(), PROOF, 0, 1);
        checks("g:h", row(), SHORT, 0, 1);
        checks("r:a g:a", row(0), PROOF, 1, 1);
    }

    @Says(of = "Trials", words = "A, B, and a body have 1 more than the goal to which they belong.")
    static void depthOfParts() {
        checks("g:!1", row(), PROOF, 0, 2);
        checks("g:[a]T", row(), PROOF, 0, 2);
        checks("g:(1*1)", row(200), PROOF, 1, 2);
        checks("g:(1&1)", row(), PROOF, 0, 2);
        checks("g:(1+1)", row(300), PROOF, 1, 2);
        checks("g:(1+!1)", row(301), PROOF, 1, 3);
        checks("g:(1*!1)", row(200), PROOF, 1, 3);
        checks("g:(1&!1)", row(), PROOF, 0, 3);
        checks("g:(!1&1)", row(), PROOF, 0, 3);
        checks("r:a<1 g:a", row(0), PROOF, 1, 2);
        checks("w:a<!1 g:a", row(100), PROOF, 1, 3);
        checks("w:a<b w:b g:(a*(1&a))", row(200, 100, 110, 100, 110), PROOF, 5, 4);
    }

    @Says(of = "Trials", words = "At each goal the following is checked in this order, "
            + "and the first thing that is wrong is the result:")
    static void orderOfTheChecks() {
        checks("g:!!!!!!!!!!!!a", row(), HIGH, 0, 12);
        checks("g:!!!!!!!!!!!!a", row(499), HIGH, 0, 12);
        checks("w:a<a|a<1 r:b g:a", rowOf(11, 100, 101), HIGH, 12, 12);
        checks("w:a<a|a<1 r:b g:a", rowOf(10, 100, 101), LEFT, 11, 12);
        checks("w:a<a|a<[b]T g:a", rowOf(10, 100, 101), HIGH, 11, 12);
        checks("r:a r:b g:b", row(0), WRONG, 0, 1);
        checks("r:a r:b g:b", row(10), LEFT, 1, 1);
        checks("r:a g:(1&b)", row(), LEFT, 0, 2);
        checks("r:a g:(b&1)", row(), SHORT, 0, 2);
        checks("r:a g:!b", row(), LEFT, 0, 1);
    }

    @Says(of = "Trials", words = "1 high: the depth of the goal is greater than 12.")
    static void high() {
        checks("g:!!!!!!!!!!!1", row(), PROOF, 0, 12);
        checks("g:!!!!!!!!!!!!1", row(), HIGH, 0, 12);
        checks("g:!!!!!!!!!!!T", row(), PROOF, 0, 12);
        checks("g:!!!!!!!!!!!!T", row(), HIGH, 0, 12);
        checks("g:!!!!!!!!!![a]a", row(50), PROOF, 1, 12);
        checks("g:!!!!!!!!!!![a]a", row(50), HIGH, 0, 12);
        checks("w:a<a|a g:a", rowOf(11, 100, 101), PROOF, 12, 12);
        checks("w:a<a|a g:a", rowOf(12, 100, 101), HIGH, 12, 12);
        checks("g:!!!!!!!!!!(1*1)", row(200), PROOF, 1, 12);
        checks("g:!!!!!!!!!!!(1*1)", row(200), HIGH, 1, 12);
        checks("g:!!!!!!!!!!(1&T)", row(), PROOF, 0, 12);
        checks("g:!!!!!!!!!!!(1&T)", row(), HIGH, 0, 12);
        checks("g:!!!!!!!!!!(1+1)", row(301), PROOF, 1, 12);
        checks("g:!!!!!!!!!!!(1+1)", row(301), HIGH, 1, 12);
    }

    @Says(of = "Trials", words = "2 short: a number is needed here, but the trial has no more numbers.")
    static void tooShort() {
        checks("r:a g:a", row(), SHORT, 0, 1);
        checks("g:(1*1)", row(), SHORT, 0, 1);
        checks("g:(1+1)", row(), SHORT, 0, 1);
        checks("r:a<b g:a", row(0), SHORT, 1, 2);
        checks("r:a g:(a&a)", row(0), SHORT, 1, 2);
        checks("g:(T&(!1&[a]T))", row(), PROOF, 0, 4);
        OnceProver x = Due.with("w:b", "w:a<(((b&b)&(b&b))&((b&b)&(b&b)))", "g:(((a&a)&(a&a))&((a&a)&(a&a)))");
        for (int i = 0; i < 60; i++) {
            x.put(i % 9 == 0 ? 110 : 100);
        }
        Due.checks("a trial of 60 numbers, a proof of 72", x, SHORT, 60, 8);
    }

    @Says(of = "Trials", words = "3 wrong: the number is none that can stand for this goal: it has another form,")
    static void wrongForm() {
        for (int number : row(200, 201, 300, 301, 302, 499)) {
            checks("r:a w:a g:a", row(number), WRONG, 0, 1);
        }
        for (int number : row(0, 100, 199, 456, 499)) {
            checks("r:a w:a g:(a*T)", row(number), WRONG, 0, 1);
        }
        for (int number : row(0, 100, 200, 299, 302, 499)) {
            checks("r:a w:a g:(a+T)", row(number), WRONG, 0, 1);
        }
        checks("r:a w:a g:(a+T)", row(300, 0), PROOF, 2, 2);
        checks("r:a w:a g:(a+T)", row(301), PROOF, 1, 2);
    }

    @Says(of = "Trials", words = "there is no such single-use offer in M,")
    static void wrongOffer() {
        checks("r:a g:a", row(10), WRONG, 0, 1);
        checks("r:a g:a", row(50), WRONG, 0, 1);
        checks("r:a g:a", row(80), WRONG, 0, 1);
        checks("r:a g:a", row(90), WRONG, 0, 1);
        checks("r:a w:a g:a", row(80), WRONG, 0, 1);
        checks("r:a<a g:a", row(0, 0), WRONG, 1, 2);
        checks("r:a g:(a*(T*a))", row(201, 0, 200, 0), WRONG, 3, 3);
        checks("g:([a]a*a)", row(200, 50, 50), WRONG, 2, 3);
        checks("r:a r:a g:(a*a)", row(202, 0), WRONG, 1, 2);
    }

    @Says(of = "Trials", words = "or no such well or face,")
    static void wrongWellOrFace() {
        checks("w:a g:a", row(110), WRONG, 0, 1);
        checks("w:a g:a", row(130), WRONG, 0, 1);
        checks("w:a w:a w:a w:a g:a", row(140), WRONG, 0, 1);
        checks("w:a w:a w:a w:a g:a", row(180), WRONG, 0, 1);
        checks("w:a w:a w:a w:a g:a", row(190), WRONG, 0, 1);
        checks("w:a g:a", row(101), WRONG, 0, 1);
        checks("r:a g:a", row(1), WRONG, 0, 1);
        for (int face = 3; face <= 9; face++) {
            checks("r:a|a|a g:a", row(face), WRONG, 0, 1);
            checks("w:a|a|a g:a", row(100 + face), WRONG, 0, 1);
        }
        checks("w:a|a|a g:a", row(102), PROOF, 1, 1);
        checks("r:a|a|a g:a", row(2), PROOF, 1, 1);
    }

    @Says(of = "Trials", words = "the face has another head,")
    static void wrongHead() {
        checks("r:b g:a", row(0), WRONG, 0, 1);
        checks("w:b g:a", row(100), WRONG, 0, 1);
        checks("r:a|b g:a", row(1), WRONG, 0, 1);
        checks("r:b<a g:a", row(0), WRONG, 0, 1);
        checks("g:[b]a", row(50), WRONG, 0, 2);
    }

    @Says(of = "Trials", words = "or S is not a subset of M.")
    static void wrongSubset() {
        checks("g:(T*T)", row(200), PROOF, 1, 2);
        checks("g:(T*T)", row(201), WRONG, 0, 1);
        checks("r:a g:(T*T)", row(201), PROOF, 1, 2);
        checks("r:a g:(T*T)", row(202), WRONG, 0, 1);
        checks("r:a g:(T*T)", row(203), WRONG, 0, 1);
        checks("r:a g:(T*T)", row(456), WRONG, 0, 1);
        checks("r:a g:(T*T)", row(457), WRONG, 0, 1);
        checks("g:[a](T*T)", row(232), PROOF, 1, 3);
        checks("g:[a](T*T)", row(264), WRONG, 0, 2);
        checks("g:([a]T*T)", row(232), WRONG, 0, 1);
        checks("r:a r:a r:a r:a r:a g:[a][a][a](T*T)", row(455), PROOF, 1, 5);
        checks("r:a r:a r:a r:a r:a g:[a][a][a](T*T)", row(456), WRONG, 0, 4);
        checks("r:a g:(T*(T*T))", row(201, 201), WRONG, 1, 2);
    }

    @Says(of = "Trials", words = "4 left: for 1, !A, or a face without a body: M, without the offer that is used, is not empty.")
    static void left() {
        checks("r:a g:1", row(), LEFT, 0, 1);
        checks("r:a g:!T", row(), LEFT, 0, 1);
        checks("g:[a]1", row(), LEFT, 0, 2);
        checks("g:[a]!T", row(), LEFT, 0, 2);
        checks("r:a g:a", row(0), PROOF, 1, 1);
        checks("r:a r:b g:a", row(0), LEFT, 1, 1);
        checks("r:a w:a g:a", row(100), LEFT, 1, 1);
        checks("w:a g:a", row(100), PROOF, 1, 1);
        checks("r:a r:b|a<T g:a", row(11), PROOF, 1, 2);
        checks("r:a w:b|a<T g:a", row(101), PROOF, 1, 2);
        checks("g:[b]T", row(), PROOF, 0, 2);
    }

    @Says(of = "Trials", words = "5 busy: for [R]A: the loan R is in M already.")
    static void busy() {
        checks("w:a<[b]a|a<T g:a", row(100, 100), BUSY, 2, 4);
        checks("w:a<[b]a|a<T g:a", row(100, 100, 499), BUSY, 2, 4);
        checks("w:a<[b]a|a<T g:a", row(100, 101), PROOF, 2, 4);
        checks("w:a<[b](b*a)|a g:a", row(100, 232, 50, 100, 232, 50, 101), PROOF, 7, 7);
        checks("g:([a]a*[a]a)", row(200, 50, 60), PROOF, 3, 3);
        checks("w:a<[b]T|a<(a&a) g:a", row(101, 100, 100), PROOF, 3, 5);
        checks("w:a<[b]c w:c<[b]a|c<T g:a", row(100, 110, 100), BUSY, 3, 6);
        checks("w:h<[b][b]h w:a<[b]a g:a", row(110, 110), BUSY, 2, 4);
        checks("w:h<[b][b]h w:a<[b]T g:a", row(110), PROOF, 1, 3);
    }

    @Says(of = "Trials", words = "If nothing is wrong, but numbers are left at the end, the result is 6 long;")
    static void tooLong() {
        checks("g:1", row(0), LONG, 0, 1);
        checks("r:a g:a", row(0, 0), LONG, 1, 1);
        checks("r:a g:a", rowOf(59, 0, 499), LONG, 1, 1);
        checks("r:a g:1", row(0), LEFT, 0, 1);
        checks("r:a g:b", row(0, 0), WRONG, 0, 1);
    }

    @Says(of = "Trials", words = "otherwise it is 0: the trial is a proof.")
    static void proof() {
        checks("g:1", row(), PROOF, 0, 1);
        checks("r:a<b r:b w:c<1 g:(c*(a&T))", row(200, 100, 0, 10), PROOF, 4, 4);
        OnceProver x = Due.with("r:a", "r:b", "w:c<(a*b)", "g:[d](c*d)");
        Due.is("trial(1)", x.trial(1), x.term(-1));
        Due.checks("the first proof", x, PROOF, x.term(-1), x.height(3));
    }

    @Says(of = "Promise 16", words = "Appends a number to the trial.")
    static void putAppends() {
        OnceProver x = Due.with("r:a", "r:b", "g:(a*b)");
        x.put(201);
        x.put(0);
        Due.is("check(0) of two", x.check(0), SHORT);
        x.put(10);
        Due.is("check(0) of three", x.check(0), PROOF);
        x.put(10);
        Due.is("check(0) of four", x.check(0), LONG);
    }

    @Says(of = "Promise 16", words = "`number`: 0 to 499")
    static void putEachNumber() {
        OnceProver x = new OnceProver();
        for (int number = 0; number <= 499; number++) {
            if (number % 60 == 0) {
                x = new OnceProver();
            }
            Due.is("put(" + number + ")", x.put(number), number % 60 + 1);
        }
    }

    @Says(of = "Promise 16", words = "Returns how many numbers the trial has then;")
    static void putReturns() {
        OnceProver x = new OnceProver();
        for (int length = 1; length <= 60; length++) {
            Due.is("put of number " + length, x.put(7), length);
        }
        x.trial(0);
        Due.is("put after trial(0)", x.put(7), 1);
    }

    @Says(of = "Promise 16", words = "OUTSIDE if number is out of range;")
    static void putOutside() {
        OnceProver x = new OnceProver();
        for (int number : row(Integer.MIN_VALUE, -1, 500, 501, 65536, Integer.MAX_VALUE)) {
            Due.is("put(" + number + ")", x.put(number), Due.OUTSIDE);
        }
        Due.is("count(6)", x.count(6), 0);
    }

    @Says(of = "Promise 16", words = "FULL if it has 60 numbers.")
    static void putFull() {
        OnceProver x = new OnceProver();
        for (int i = 0; i < 59; i++) {
            x.put(i);
        }
        Due.is("put to 59", x.put(1), 60);
        Due.is("put to 60", x.put(1), Due.FULL);
        Due.is("put to 60 again", x.put(0), Due.FULL);
        Due.is("count(6)", x.count(6), 60);
        Due.is("put(500) is OUTSIDE first", x.put(500), Due.OUTSIDE);
    }

    /** A goal whose only proof has as many numbers as told, 57 to 61. */
    private static OnceProver withCodeOf(int length) {
        String[] rests = {"1", "a", "(a&a)", "(a&(a&a))", "((a&a)&(a&a))"};
        return Due.with("w:a", "w:b<((a&a)&(a&a))", "w:c<((b&b)&(b&b))",
                "g:((c&c)&((b&(b&b))&" + rests[length - 57] + "))");
    }

    @Says(of = "Promise 17", words = "Empties the trial, or replaces it by the first 60 numbers of the code of the first proof")
    static void trialOfSixty() {
        for (int length = 57; length <= 61; length++) {
            OnceProver x = withCodeOf(length);
            Due.is("term(-1)", x.term(-1), length);
            x.put(499);
            Due.is("trial(1)", x.trial(1), Math.min(60, length));
            Due.is("count(6)", x.count(6), Math.min(60, length));
            Due.is("check(0)", x.check(0), length <= 60 ? PROOF : SHORT);
            Due.is("check(1)", x.check(1), Math.min(60, length));
            Due.is("trial(0)", x.trial(0), 0);
            Due.is("count(6)", x.count(6), 0);
        }
    }

    @Says(of = "Promise 17", words = "(by nothing, if there is no proof).")
    static void trialWithoutProof() {
        OnceProver x = Due.with("r:a", "g:b");
        x.put(0);
        x.put(1);
        Due.is("trial(1)", x.trial(1), 0);
        Due.is("count(6)", x.count(6), 0);
        Due.is("put(5)", x.put(5), 1);
    }

    @Says(of = "Promise 17", words = "`n`: 0: it becomes empty; 1: it is replaced")
    static void trialKinds() {
        OnceProver x = Due.with("r:a", "g:(a&a)");
        Due.is("trial(0)", x.trial(0), 0);
        Due.is("trial(1)", x.trial(1), 2);
        Due.is("trial(1) again", x.trial(1), 2);
        Due.is("trial(0)", x.trial(0), 0);
    }

    @Says(of = "Promise 17", words = "Returns how many numbers the trial has then;")
    static void trialReturns() {
        OnceProver x = Due.with("g:1");
        x.put(3);
        Due.is("trial(1) of a code without numbers", x.trial(1), 0);
        Due.add(x, "w:a", "g:a");
        Due.is("trial(1) of a code with one", x.trial(1), 1);
        Due.is("trial(1) of a code with 60", withCodeOf(60).trial(1), 60);
    }

    @Says(of = "Promise 17", words = "OUTSIDE if n is not 0 or 1;")
    static void trialOutside() {
        OnceProver x = Due.with("r:a", "g:a");
        x.put(0);
        for (int n : row(Integer.MIN_VALUE, -1, 2, Integer.MAX_VALUE)) {
            Due.is("trial(" + n + ")", x.trial(n), Due.OUTSIDE);
        }
        Due.is("count(6)", x.count(6), 1);
    }

    @Says(of = "Promise 17", words = "STATE for n = 1 if there is no goal.")
    static void trialState() {
        OnceProver x = Due.with("r:a");
        x.put(0);
        Due.is("trial(1)", x.trial(1), Due.STATE);
        Due.is("count(6)", x.count(6), 1);
        Due.is("trial(2) is OUTSIDE first", x.trial(2), Due.OUTSIDE);
        Due.is("trial(0) needs no goal", x.trial(0), 0);
        Due.is("count(6)", x.count(6), 0);
    }

    @Says(of = "Promise 18", words = "Checks the trial.")
    static void checkOfTheTrial() {
        OnceProver x = Due.with("r:a", "g:a");
        Due.is("the empty trial", x.check(0), SHORT);
        x.put(0);
        Due.is("the trial 0", x.check(0), PROOF);
        Due.is("the trial 0 again", x.check(0), PROOF);
        Due.is("count(6)", x.count(6), 1);
        Due.add(x, "g:b");
        Due.is("with another goal", x.check(0), WRONG);
        Due.add(x, "g:(a&(a&T))");
        Due.puts(x, 0, 0);
        Due.checks("with a higher goal", x, PROOF, 2, 3);
        Due.add(x, "g:a");
        Due.checks("with a lower goal", x, LONG, 1, 1);
        x.trial(0);
        Due.checks("with no number", x, SHORT, 0, 1);
    }

    @Says(of = "Promise 18", words = "`what`: 0: the result, 0 to 6;")
    static void checkResults() {
        verdictIs("g:1", row(), 0);
        verdictIs("g:!!!!!!!!!!!!1", row(), 1);
        verdictIs("g:a", row(), 2);
        verdictIs("g:a", row(0), 3);
        verdictIs("r:a g:1", row(), 4);
        verdictIs("w:a<[b]a g:a", row(100, 100), 5);
        verdictIs("g:1", row(0), 6);
    }

    private static void usedAre(String texts, int[] numbers, int used) {
        OnceProver x = Due.with(texts.split(" "));
        Due.puts(x, numbers);
        Due.is(texts + ": check(1)", x.check(1), used);
    }

    @Says(of = "Promise 18", words = "1: how many numbers have been used (a wrong number is not used;")
    static void checkUsed() {
        usedAre("g:1", row(), 0);
        usedAre("g:1", row(5, 5), 0);
        usedAre("r:a g:a", row(), 0);
        usedAre("r:a g:a", row(0), 1);
        usedAre("r:a g:a", row(0, 0), 1);
        usedAre("r:a g:a", row(1), 0);
        usedAre("r:a g:(a*T)", row(202), 0);
        usedAre("r:a g:(a*T)", row(201, 10), 1);
        usedAre("r:a g:(a+T)", row(302), 0);
        usedAre("r:a g:(a+T)", row(300, 300), 1);
        usedAre("r:a g:(a&a)", row(0, 1), 1);
    }

    @Says(of = "Promise 18", words = "the number of a face at which something is left is);")
    static void checkUsedAtLeft() {
        usedAre("r:a r:b g:a", row(0), 1);
        usedAre("r:a w:b g:b", row(100), 1);
        usedAre("r:a r:b g:(T&a)", row(0, 0), 1);
        usedAre("r:a r:b g:(T*a)", row(200, 0), 2);
        usedAre("r:a g:(T*1)", row(200), 1);
    }

    private static void deepestIs(String texts, int[] numbers, int deepest) {
        OnceProver x = Due.with(texts.split(" "));
        Due.puts(x, numbers);
        Due.is(texts + ": check(2)", x.check(2), deepest);
    }

    @Says(of = "Promise 18", words = "2: the greatest depth of a goal that was reached, not counting one that is too deep (high)")
    static void checkDeepest() {
        deepestIs("g:1", row(), 1);
        deepestIs("r:a g:a", row(), 1);
        deepestIs("r:a g:a", row(5), 1);
        deepestIs("g:(!!1&1)", row(), 4);
        deepestIs("g:(1&!!1)", row(), 4);
        deepestIs("r:a g:(1&!!1)", row(), 2);
        deepestIs("g:(!!1*1)", row(), 1);
        deepestIs("g:(!!1+1)", row(301), 2);
        deepestIs("g:!!!!!!!!!!!1", row(), 12);
        deepestIs("g:!!!!!!!!!!!!1", row(), 12);
        deepestIs("w:a<a g:a", rowOf(59, 100, 100), 12);
    }

    @Says(of = "Promise 18", words = "Returns that number;")
    static void checkReturns() {
        checks("r:a g:(a&(a&a))", row(0, 0), SHORT, 2, 3);
        checks("r:a g:(a&(a&a))", row(0, 0, 0), PROOF, 3, 3);
    }

    @Says(of = "Promise 18", words = "OUTSIDE if what is not 0 to 2;")
    static void checkOutside() {
        OnceProver x = Due.with("r:a", "g:a");
        for (int what : row(Integer.MIN_VALUE, -1, 3, Integer.MAX_VALUE)) {
            Due.is("check(" + what + ")", x.check(what), Due.OUTSIDE);
        }
        Due.is("check(2)", x.check(2), 1);
    }

    @Says(of = "Promise 18", words = "STATE if there is no goal.")
    static void checkState() {
        OnceProver x = Due.with("r:a");
        x.put(0);
        for (int what = 0; what <= 2; what++) {
            Due.is("check(" + what + ")", x.check(what), Due.STATE);
        }
        Due.is("check(3) is OUTSIDE first", x.check(3), Due.OUTSIDE);
        Due.is("check(-1) is OUTSIDE first", x.check(-1), Due.OUTSIDE);
    }
}
