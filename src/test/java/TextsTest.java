/** Promises 1 to 8: a new object, the text, and how resources, wells and the goal come and go. */
public final class TextsTest {
    public static void main(String[] args) {
        newObject();
        sayAndWipe();
        grammarOfGoals();
        grammarOfOffers();
        resources();
        wells();
        goals();
        limitOfNodes();
        limitOfLoans();
        errorsInOrder();
        faults();
        drops();
        Due.end();
    }

    private static void newObject() {
        OnceProver x = new OnceProver();
        for (int what = 0; what <= 7; what++) {
            Due.is("new: count(" + what + ")", x.count(what), 0);
        }
        Due.is("new: fault()", x.fault(), OnceProver.NONE);
        Due.is("new: wipe()", x.wipe(), 0);
        Due.is("new: height(0)", x.height(0), OnceProver.STATE);
        Due.is("new: restore(0)", x.restore(0), OnceProver.STATE);
        Due.is("new: restore(1)", x.restore(1), OnceProver.STATE);
        Due.is("new: trial(0)", x.trial(0), 0);
    }

    private static void sayAndWipe() {
        OnceProver x = new OnceProver();
        Due.is("say(32)", x.say(32), OnceProver.OUTSIDE);
        Due.is("say(127)", x.say(127), OnceProver.OUTSIDE);
        Due.is("say(-1)", x.say(-1), OnceProver.OUTSIDE);
        Due.is("say(min)", x.say(Integer.MIN_VALUE), OnceProver.OUTSIDE);
        Due.is("say(65536 + 97)", x.say(65536 + 97), OnceProver.OUTSIDE);
        Due.is("count(5)", x.count(5), 0);
        Due.is("say(33)", x.say(33), 1);
        Due.is("say(126)", x.say(126), 2);
        Due.is("count(5)", x.count(5), 2);
        Due.is("wipe()", x.wipe(), 2);
        Due.is("wipe() again", x.wipe(), 0);
        for (int i = 1; i <= 60; i++) {
            Due.is("say " + i, x.say('!'), i);
        }
        Due.is("say 61", x.say('!'), OnceProver.FULL);
        Due.is("say(32) when full", x.say(32), OnceProver.OUTSIDE);
        Due.is("count(5)", x.count(5), 60);
        Due.is("goal()", x.goal(), OnceProver.FAULT);
        Due.is("fault()", x.fault(), 60);
        Due.is("wipe()", x.wipe(), 60);
        Due.say(x, "b");
        Due.is("goal()", x.goal(), 1);
    }

    /** A good goal has its number of nodes here, a bad one minus the fault minus 1. */
    private static void goalIs(String text, int want) {
        OnceProver x = new OnceProver();
        Due.say(x, text);
        int answer = x.goal();
        if (want >= 0) {
            Due.is("goal " + text, answer, want);
            Due.is("nodes of goal " + text, x.count(3), want);
            Due.is("length after goal " + text, x.count(5), 0);
            Due.is("fault after goal " + text, x.fault(), OnceProver.NONE);
        } else {
            Due.is("goal " + text, answer, OnceProver.FAULT);
            Due.is("fault of goal " + text, x.fault(), -want - 1);
            Due.is("length after goal " + text, x.count(5), text.length());
            Due.is("count(2) after goal " + text, x.count(2), 0);
        }
    }

    private static void grammarOfGoals() {
        for (char atom = 'a'; atom <= 'h'; atom++) {
            goalIs("" + atom, 1);
        }
        goalIs("1", 1);
        goalIs("T", 1);
        goalIs("!a", 2);
        goalIs("!!1", 3);
        goalIs("(a*b)", 3);
        goalIs("(1&T)", 3);
        goalIs("(!h+(a*b))", 6);
        goalIs("[a]b", 2);
        goalIs("[a<b]c", 3);
        goalIs("[a|b<(c*d)|e]f", 5);
        goalIs("[a<[b<[c]d]e]f", 6);
        goalIs("[a][b][c]d", 4);
        goalIs("([a<1|b<T|c<!h]g&[d]1)", 9);
        goalIs("", -1);
        goalIs("i", -1);
        goalIs("A", -1);
        goalIs("`", -1);
        goalIs("0", -1);
        goalIs("t", -1);
        goalIs(")", -1);
        goalIs("]", -1);
        goalIs("<a", -1);
        goalIs("|a", -1);
        goalIs("ab", -2);
        goalIs("a<b", -2);
        goalIs("a|b", -2);
        goalIs("1a", -2);
        goalIs("T)", -2);
        goalIs("!", -2);
        goalIs("!*", -2);
        goalIs("(", -2);
        goalIs("()", -2);
        goalIs("(a", -3);
        goalIs("(a)", -3);
        goalIs("(a-b)", -3);
        goalIs("(a|b)", -3);
        goalIs("(a*", -4);
        goalIs("(a*)", -4);
        goalIs("(a*b", -5);
        goalIs("(a*b]", -5);
        goalIs("(a*b*c)", -5);
        goalIs("(a*b)c", -6);
        goalIs("[", -2);
        goalIs("[1]a", -2);
        goalIs("[]a", -2);
        goalIs("[a", -3);
        goalIs("[a)", -3);
        goalIs("[a<", -4);
        goalIs("[a<]b", -4);
        goalIs("[a<b<c]d", -5);
        goalIs("[a<b", -5);
        goalIs("[a|", -4);
        goalIs("[a|]b", -4);
        goalIs("[a||b]c", -4);
        goalIs("[a|b|c|d]e", -7);
        goalIs("[a|b|c<d|e]f", -9);
        goalIs("[a]", -4);
        goalIs("[a]]", -4);
        goalIs("[a]b]", -5);
        goalIs("((((((", -7);
        goalIs("(a*i)i", -4);
    }

    private static void offerIs(String text, int fault) {
        OnceProver x = new OnceProver();
        Due.say(x, text);
        Due.is("resource " + text, x.resource(), fault < 0 ? 0 : OnceProver.FAULT);
        Due.is("fault of resource " + text, x.fault(), fault < 0 ? OnceProver.NONE : fault);
        Due.is("length after resource " + text, x.count(5), fault < 0 ? 0 : text.length());
        OnceProver y = new OnceProver();
        Due.say(y, text);
        Due.is("well " + text, y.well(), fault < 0 ? 0 : OnceProver.FAULT);
        Due.is("fault of well " + text, y.fault(), fault < 0 ? OnceProver.NONE : fault);
        Due.is("length after well " + text, y.count(5), fault < 0 ? 0 : text.length());
    }

    private static void grammarOfOffers() {
        offerIs("a", -1);
        offerIs("h<1", -1);
        offerIs("a|b|c", -1);
        offerIs("a<!T|b<(a+b)|c<[d|e]f", -1);
        offerIs("a<[b<c|d]e|f", -1);
        offerIs("", 0);
        offerIs("1", 0);
        offerIs("(a*b)", 0);
        offerIs("[a]b", 0);
        offerIs("a<", 2);
        offerIs("a<<", 2);
        offerIs("a|", 2);
        offerIs("a|1", 2);
        offerIs("a|b|", 4);
        offerIs("a|b|c|", 5);
        offerIs("a|b|c|d", 5);
        offerIs("a<b|c<d|e<f|g", 11);
        offerIs("a]", 1);
        offerIs("a>b", 1);
        offerIs("a<b<c", 3);
        offerIs("a<[b|c|d|e]f", 8);
    }

    private static void resources() {
        OnceProver x = new OnceProver();
        for (int n = 0; n < 5; n++) {
            Due.say(x, "a");
            Due.is("resource " + n, x.resource(), n);
        }
        Due.say(x, "b");
        Due.is("a sixth resource", x.resource(), OnceProver.FULL);
        Due.is("its text", x.count(5), 1);
        Due.is("count(0)", x.count(0), 31);
        Due.is("drop(0, 3)", x.drop(0, 3), 4);
        Due.is("drop(0, 1)", x.drop(0, 1), 3);
        Due.is("the lowest free number", x.resource(), 1);
        Due.say(x, "b");
        Due.is("the next free number", x.resource(), 3);
        Due.is("count(0)", x.count(0), 31);
        Due.is("count(3): heads are no nodes", x.count(3), 0);
    }

    private static void wells() {
        OnceProver x = new OnceProver();
        for (int n = 0; n < 4; n++) {
            Due.say(x, "a<b");
            Due.is("well " + n, x.well(), n);
        }
        Due.say(x, "b");
        Due.is("a fifth well", x.well(), OnceProver.FULL);
        Due.is("a first resource beside", x.resource(), 0);
        Due.is("count(1)", x.count(1), 15);
        Due.is("drop(1, 0)", x.drop(1, 0), 3);
        Due.is("count(1)", x.count(1), 14);
        Due.say(x, "b");
        Due.is("the lowest free number", x.well(), 0);
        Due.is("count(3)", x.count(3), 3);
    }

    private static void goals() {
        OnceProver x = Due.with("r:a", "g:a");
        Due.is("height(1)", x.height(1), 1);
        Due.say(x, "(a&a)");
        Due.is("a second goal", x.goal(), 3);
        Due.is("count(3)", x.count(3), 3);
        Due.is("height(1)", x.height(1), 2);
        Due.is("count(2)", x.count(2), 1);
        Due.say(x, "(a&");
        Due.is("a broken goal", x.goal(), OnceProver.FAULT);
        Due.is("the goal stays", x.height(1), 2);
    }

    private static String times(String part, int n) {
        return part.repeat(n);
    }

    private static void limitOfNodes() {
        OnceProver x = new OnceProver();
        Due.say(x, times("!", 29) + "a");
        Due.is("a goal of 30", x.goal(), 30);
        Due.say(x, "a<" + times("!", 29) + "a");
        Due.is("a resource of 30", x.resource(), 0);
        Due.is("count(3)", x.count(3), 60);
        Due.say(x, "a<b");
        Due.is("a resource too many", x.resource(), OnceProver.FULL);
        Due.is("a well too many", x.well(), OnceProver.FULL);
        Due.is("its text stays", x.wipe(), 3);
        Due.say(x, "a");
        Due.is("a resource without nodes", x.resource(), 1);
        Due.say(x, times("!", 30) + "a");
        Due.is("a goal of 31", x.goal(), OnceProver.FULL);
        Due.is("its text stays", x.wipe(), 31);
        Due.say(x, times("!", 28) + "aa");
        Due.is("FAULT", x.goal(), OnceProver.FAULT);
        x.wipe();
        Due.say(x, times("!", 29) + "b");
        Due.is("a goal of 30 instead", x.goal(), 30);
        Due.is("drop(2, 0)", x.drop(2, 0), 0);
        Due.say(x, times("!", 30) + "a");
        Due.is("a goal of 31 still", x.goal(), OnceProver.FULL);
        OnceProver y = new OnceProver();
        Due.say(y, times("!", 59) + "T");
        Due.is("a goal of 60", y.goal(), 60);
        Due.say(y, "a<1");
        Due.is("a node more", y.well(), OnceProver.FULL);
    }

    private static void limitOfLoans() {
        OnceProver x = new OnceProver();
        Due.say(x, "[a][b][c]d");
        Due.is("a goal with three loans", x.goal(), 4);
        Due.is("count(4)", x.count(4), 3);
        Due.say(x, "a<[b]c");
        Due.is("a resource with a loan", x.resource(), OnceProver.FULL);
        Due.is("a well with a loan", x.well(), OnceProver.FULL);
        Due.is("wipe()", x.wipe(), 6);
        Due.say(x, "[a][b][c][d]e");
        Due.is("a goal with four loans", x.goal(), OnceProver.FULL);
        x.wipe();
        Due.say(x, "[a<[b<[c]d]e]f");
        Due.is("three other loans", x.goal(), 6);
        Due.say(x, "[a]b");
        Due.is("one loan instead", x.goal(), 2);
        Due.is("count(4)", x.count(4), 1);
        Due.say(x, "a<[b]c");
        Due.is("a resource with a loan", x.resource(), 0);
        Due.say(x, "a<[b]c");
        Due.is("a well with a loan", x.well(), 0);
        Due.is("count(4)", x.count(4), 3);
        Due.say(x, "[a][b]c");
        Due.is("a goal with two loans", x.goal(), OnceProver.FULL);
        Due.is("count(4)", x.count(4), 3);
        OnceProver y = new OnceProver();
        Due.say(y, times("[a]", 19) + "b");
        Due.is("nineteen loans", y.goal(), OnceProver.FULL);
        Due.is("count(4)", y.count(4), 0);
    }

    private static void errorsInOrder() {
        OnceProver x = Due.with("r:a", "r:a", "r:a", "r:a", "r:a", "w:a", "w:a", "w:a", "w:a", "g:[a][b][c]d");
        Due.say(x, "a|");
        Due.is("FAULT before FULL, resource", x.resource(), OnceProver.FAULT);
        Due.is("FAULT before FULL, well", x.well(), OnceProver.FAULT);
        x.wipe();
        Due.say(x, "[a][b][c][d]");
        Due.is("FAULT before FULL, goal", x.goal(), OnceProver.FAULT);
        Due.is("fault()", x.fault(), 12);
    }

    private static void faults() {
        OnceProver x = new OnceProver();
        Due.say(x, "a|");
        Due.is("resource()", x.resource(), OnceProver.FAULT);
        Due.is("fault()", x.fault(), 2);
        Due.is("fault() again", x.fault(), 2);
        Due.is("goal()", x.goal(), OnceProver.FAULT);
        Due.is("fault()", x.fault(), 1);
        Due.say(x, "b");
        Due.is("well()", x.well(), 0);
        Due.is("fault() stays", x.fault(), 1);
        x.image(0);
        x.restore(0);
        x.wipe();
        Due.is("fault() stays", x.fault(), 1);
        Due.is("well()", x.well(), OnceProver.FAULT);
        Due.is("fault()", x.fault(), 0);
    }

    private static void drops() {
        OnceProver x = Due.with("r:a", "r:b", "w:c", "w:d", "g:e");
        Due.is("drop(-1, 0)", x.drop(-1, 0), OnceProver.OUTSIDE);
        Due.is("drop(3, 0)", x.drop(3, 0), OnceProver.OUTSIDE);
        Due.is("drop(3, 99)", x.drop(3, 99), OnceProver.OUTSIDE);
        Due.is("drop(0, -1)", x.drop(0, -1), OnceProver.UNKNOWN);
        Due.is("drop(0, 2)", x.drop(0, 2), OnceProver.UNKNOWN);
        Due.is("drop(0, 5)", x.drop(0, 5), OnceProver.UNKNOWN);
        Due.is("drop(1, 2)", x.drop(1, 2), OnceProver.UNKNOWN);
        Due.is("drop(1, 4)", x.drop(1, 4), OnceProver.UNKNOWN);
        Due.is("drop(1, -1)", x.drop(1, -1), OnceProver.UNKNOWN);
        Due.is("drop(0, min)", x.drop(0, Integer.MIN_VALUE), OnceProver.UNKNOWN);
        Due.is("drop(1, max)", x.drop(1, Integer.MAX_VALUE), OnceProver.UNKNOWN);
        Due.is("drop(0, 0)", x.drop(0, 0), 1);
        Due.is("drop(0, 0) again", x.drop(0, 0), OnceProver.UNKNOWN);
        Due.is("count(0)", x.count(0), 2);
        Due.is("drop(0, 1)", x.drop(0, 1), 0);
        Due.is("drop(1, 1)", x.drop(1, 1), 1);
        Due.is("count(1)", x.count(1), 1);
        Due.is("drop(2, -77)", x.drop(2, -77), 0);
        Due.is("drop(2, 0) again", x.drop(2, 0), OnceProver.STATE);
        Due.is("count(2)", x.count(2), 0);
        Due.is("count(3)", x.count(3), 0);
    }
}
