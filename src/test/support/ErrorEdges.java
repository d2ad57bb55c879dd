import java.util.ArrayList;
import java.util.List;
import java.util.function.Consumer;
import java.util.function.ToIntFunction;

/** The sentences of the sections "What it is" and "Errors". */
final class ErrorEdges {
    private static final int CALLS = 512;

    private ErrorEdges() {
    }

    /** A call, with what it has to return. */
    private record Call(String name, int due, ToIntFunction<OnceProver> run) {
        void isDueOn(OnceProver x) {
            Due.is(name, run.applyAsInt(x), due);
        }
    }

    private static Call call(String name, int due, ToIntFunction<OnceProver> run) {
        return new Call(name, due, run);
    }

    @Says(of = "What it is", words = "Goals are proved from resources, each of which has to be used exactly once,")
    static void resourcesOnce() {
        OnceProver x = Due.with("r:a", "r:b", "g:a");
        Due.is("not used", x.height(3), Due.NONE);
        Due.add(x, "g:(a*b)");
        Due.is("used once", x.height(3), 2);
        Due.add(x, "g:(a*(a*b))");
        Due.is("used twice", x.height(3), Due.NONE);
    }

    @Says(of = "What it is", words = "and from wells, which can be used as often as needed, or never.")
    static void wellsAsNeeded() {
        OnceProver x = Due.with("w:a", "w:b", "g:1");
        Due.is("never", x.height(0), 1);
        Due.add(x, "g:a");
        Due.is("once", x.height(0), 1);
        Due.add(x, "g:(a*(a*(a*(a*(a*(a*(a*(a*a))))))))");
        Due.is("nine times", x.height(0), 9);
        Due.is("uses(1, 0)", x.uses(1, 0), 9);
    }

    @Says(of = "What it is", words = "An object is used for at most 512 calls after it has been made;")
    static void theLastOfAllCalls() {
        List<Call> last = List.of(call("height(3)", 3, x -> x.height(3)), call("ways(3, 10)", 1, x -> x.ways(3, 10)),
                call("left(10, -1)", 1, x -> x.left(10, -1)), call("term(1)", 10, x -> x.term(1)),
                call("check(0)", 2, x -> x.check(0)), call("image(1)", 1, x -> x.image(1)),
                call("say('a')", 1, x -> x.say('a')), call("put(1)", 1, x -> x.put(1)),
                call("goal()", Due.FAULT, OnceProver::goal),
                call("wipe()", 0, OnceProver::wipe), call("count(0)", 3, x -> x.count(0)));
        for (Call one : last) {
            OnceProver x = Due.with("r:a", "r:b<a", "g:(b*T)");
            int calls = 2 + 4 + 6;
            for (; calls < CALLS - 1; calls++) {
                Due.is("a call before", x.image(0), 1);
            }
            one.isDueOn(x);
        }
    }

    @Says(of = "Errors", words = "UNKNOWN (-1): there is no such resource or well, or as the method says.")
    static void unknown() {
        OnceProver x = Due.with("r:a", "w:a", "g:a");
        Due.is("drop(0, 1)", x.drop(0, 1), -1);
        Due.is("drop(1, 1)", x.drop(1, 1), -1);
        Due.is("height(2)", x.height(2), -1);
        Due.is("ways(2, 1)", x.ways(2, 1), -1);
        Due.is("uses(0, 8)", x.uses(0, 8), -1);
        Due.is("uses(1, 4)", x.uses(1, 4), -1);
    }

    @Says(of = "Errors", words = "OUTSIDE (-2): another argument is out of its range.")
    static void outside() {
        OnceProver x = Due.with("r:a", "g:a");
        Due.is("say(32)", x.say(32), -2);
        Due.is("drop(3, 0)", x.drop(3, 0), -2);
        Due.is("left(11, 0)", x.left(11, 0), -2);
        Due.is("ways(1, 11)", x.ways(1, 11), -2);
        Due.is("term(-2)", x.term(-2), -2);
        Due.is("uses(2, 0)", x.uses(2, 0), -2);
        Due.is("put(500)", x.put(500), -2);
        Due.is("trial(2)", x.trial(2), -2);
        Due.is("check(3)", x.check(3), -2);
        Due.is("image(2)", x.image(2), -2);
        Due.is("restore(2)", x.restore(2), -2);
        Due.is("count(8)", x.count(8), -2);
    }

    private static final List<Call> WITHOUT_GOAL = List.of(call("drop(2, 0)", -3, x -> x.drop(2, 0)),
            call("height(0)", -3, x -> x.height(0)), call("left(0, -1)", -3, x -> x.left(0, -1)),
            call("left(10, 0)", -3, x -> x.left(10, 0)),
            call("ways(0, 0)", -3, x -> x.ways(0, 0)), call("ways(0, 10)", -3, x -> x.ways(0, 10)),
            call("fewest()", -3, OnceProver::fewest), call("needed()", -3, OnceProver::needed),
            call("term(-1)", -3, x -> x.term(-1)), call("term(0)", -3, x -> x.term(0)),
            call("uses(0, 0)", -3, x -> x.uses(0, 0)), call("uses(1, 3)", -3, x -> x.uses(1, 3)),
            call("trial(1)", -3, x -> x.trial(1)), call("check(0)", -3, x -> x.check(0)),
            call("check(1)", -3, x -> x.check(1)), call("check(2)", -3, x -> x.check(2)));

    @Says(of = "Errors", words = "STATE (-3): there is no goal, or as the method says.")
    static void state() {
        OnceProver x = Due.with("r:a", "w:a");
        for (Call one : WITHOUT_GOAL) {
            one.isDueOn(x);
        }
        Due.is("restore(0)", x.restore(0), -3);
        Due.add(x, "g:a");
        x.drop(2, 0);
        for (Call one : WITHOUT_GOAL) {
            one.isDueOn(x);
        }
    }

    /** No room for a resource, a well, or a character [. */
    private static OnceProver withoutRoom(String text) {
        OnceProver x = Due.with("r:a", "r:a", "r:a", "r:a", "r:a", "w:a", "w:a", "w:a", "w:a",
                "g:[a][a][a]" + "!".repeat(48) + "1");
        Due.say(x, text);
        return x;
    }

    /** Room for resources and wells, but none for a node or a character [ more. */
    private static OnceProver withoutRoomForNodes(String text) {
        OnceProver x = Due.with("r:a<[a]1", "w:a<[a]1", "g:[a]" + "!".repeat(54) + "1");
        Due.say(x, text);
        return x;
    }

    @Says(of = "Errors", words = "FULL (-4): there is no room.")
    static void full() {
        Due.is("say to 60", withoutRoom("a".repeat(60)).say('a'), -4);
        Due.is("a sixth resource", withoutRoom("a").resource(), -4);
        Due.is("a fifth well", withoutRoom("a").well(), -4);
        Due.is("a goal of four [", withoutRoom("[a][a][a][a]a").goal(), -4);
        Due.is("a resource with a node", withoutRoomForNodes("a<1").resource(), -4);
        Due.is("a well with a node", withoutRoomForNodes("a<1").well(), -4);
        Due.is("a goal with a node more", withoutRoomForNodes("!".repeat(56) + "1").goal(), -4);
        OnceProver x = new OnceProver();
        for (int i = 0; i < 60; i++) {
            x.put(i);
        }
        Due.is("put to 60", x.put(0), -4);
    }

    @Says(of = "Errors", words = "FAULT (-7): the text has a fault.")
    static void fault() {
        for (String text : new String[] {"", "(", "a<", "i", "a|b|c|d"}) {
            OnceProver x = new OnceProver();
            Due.say(x, text);
            Due.is("goal " + text, x.goal(), -7);
            Due.is("resource " + text, x.resource(), -7);
            Due.is("well " + text, x.well(), -7);
        }
    }

    @Says(of = "Errors", words = "If several of them apply, the one that the method names first is returned.")
    static void theFirstOfSeveral() {
        OnceProver text = withoutRoom("(".repeat(60));
        Due.is("say(32): OUTSIDE before FULL", text.say(32), Due.OUTSIDE);
        Due.is("resource(): FAULT before FULL", withoutRoom("a|").resource(), Due.FAULT);
        Due.is("resource(): FAULT before FULL of [", withoutRoom("a<[b]").resource(), Due.FAULT);
        Due.is("well(): FAULT before FULL", withoutRoom("a|").well(), Due.FAULT);
        Due.is("goal(): FAULT before FULL", withoutRoom("[a][a][a][a]").goal(), Due.FAULT);
        Due.is("goal(): FAULT before FULL of nodes", withoutRoomForNodes("!".repeat(58)).goal(), Due.FAULT);
        OnceProver x = Due.with("r:a");
        Due.is("drop(3, 9): OUTSIDE before UNKNOWN", x.drop(3, 9), Due.OUTSIDE);
        Due.is("drop(-1, -1): OUTSIDE before UNKNOWN", x.drop(-1, -1), Due.OUTSIDE);
        Due.is("height(2): UNKNOWN before STATE", x.height(2), Due.UNKNOWN);
        Due.is("height(-1): UNKNOWN before STATE", x.height(-1), Due.UNKNOWN);
        Due.is("left(11, 0): OUTSIDE before STATE", x.left(11, 0), Due.OUTSIDE);
        Due.is("left(0, -2): OUTSIDE before STATE", x.left(0, -2), Due.OUTSIDE);
        Due.is("ways(2, 11): UNKNOWN before OUTSIDE", x.ways(2, 11), Due.UNKNOWN);
        Due.is("ways(-1, -1): UNKNOWN before OUTSIDE", x.ways(-1, -1), Due.UNKNOWN);
        Due.is("ways(2, 1): UNKNOWN before STATE", x.ways(2, 1), Due.UNKNOWN);
        Due.is("ways(1, 11): OUTSIDE before STATE", x.ways(1, 11), Due.OUTSIDE);
        Due.is("term(-2): OUTSIDE before STATE", x.term(-2), Due.OUTSIDE);
        Due.is("uses(2, 8): OUTSIDE before UNKNOWN", x.uses(2, 8), Due.OUTSIDE);
        Due.is("uses(2, 0): OUTSIDE before STATE", x.uses(2, 0), Due.OUTSIDE);
        Due.is("uses(0, 8): UNKNOWN before STATE", x.uses(0, 8), Due.UNKNOWN);
        Due.is("uses(1, 4): UNKNOWN before STATE", x.uses(1, 4), Due.UNKNOWN);
        Due.is("trial(2): OUTSIDE before STATE", x.trial(2), Due.OUTSIDE);
        Due.is("check(3): OUTSIDE before STATE", x.check(3), Due.OUTSIDE);
        Due.is("restore(2): OUTSIDE before STATE", x.restore(2), Due.OUTSIDE);
        for (int i = 0; i < 60; i++) {
            x.put(i);
        }
        Due.is("put(500): OUTSIDE before FULL", x.put(500), Due.OUTSIDE);
    }

    /** Much of everything: numbers that are free in between, a text, a trial, a fault, one image. */
    private static OnceProver rich() {
        OnceProver x = Due.with("r:h", "w:h<1", "g:(h*h)");
        x.image(0);
        Due.add(x, "r:a", "r:b<[c]c", "w:b<a", "g:[d](d*(a*(b*T)))");
        x.drop(0, 0);
        x.drop(1, 0);
        Due.say(x, "[a");
        Due.is("goal [a", x.goal(), Due.FAULT);
        x.trial(1);
        x.put(3);
        return x;
    }

    private static OnceProver richWithoutGoal() {
        OnceProver x = rich();
        x.drop(2, 0);
        return x;
    }

    /** What can be seen of a prover, but for its fault. */
    private static String seen(OnceProver x) {
        StringBuilder all = new StringBuilder();
        for (int what = 0; what <= 7; what++) {
            all.append(x.count(what)).append(' ');
        }
        all.append("code ").append(Due.code(x));
        all.append(" check ").append(x.check(0)).append(' ').append(x.check(1)).append(' ').append(x.check(2));
        all.append(" left ").append(x.left(10, -1)).append(" ways ").append(x.ways(x.count(0), 10));
        Due.say(x, "]a");
        all.append(" goal ").append(x.goal()).append(' ').append(Due.code(x)).append(' ').append(x.check(1));
        for (int k = 0; k <= 1; k++) {
            all.append(" restore ").append(x.restore(k)).append(' ').append(x.count(0)).append(' ').append(x.count(1));
            all.append(' ').append(x.count(3)).append(' ').append(x.fewest());
        }
        return all.toString();
    }

    private static List<Call> refused() {
        List<Call> calls = new ArrayList<>();
        calls.add(call("say(32)", Due.OUTSIDE, x -> x.say(32)));
        calls.add(call("say(127)", Due.OUTSIDE, x -> x.say(127)));
        calls.add(call("drop(-1, 1)", Due.OUTSIDE, x -> x.drop(-1, 1)));
        calls.add(call("drop(3, 1)", Due.OUTSIDE, x -> x.drop(3, 1)));
        calls.add(call("drop(0, 0)", Due.UNKNOWN, x -> x.drop(0, 0)));
        calls.add(call("drop(0, -1)", Due.UNKNOWN, x -> x.drop(0, -1)));
        calls.add(call("drop(0, 5)", Due.UNKNOWN, x -> x.drop(0, 5)));
        calls.add(call("drop(1, 0)", Due.UNKNOWN, x -> x.drop(1, 0)));
        calls.add(call("drop(1, -1)", Due.UNKNOWN, x -> x.drop(1, -1)));
        calls.add(call("drop(1, 4)", Due.UNKNOWN, x -> x.drop(1, 4)));
        calls.add(call("height(1)", Due.UNKNOWN, x -> x.height(1)));
        calls.add(call("height(-2)", Due.UNKNOWN, x -> x.height(-2)));
        calls.add(call("left(11, 0)", Due.OUTSIDE, x -> x.left(11, 0)));
        calls.add(call("left(1, -2)", Due.OUTSIDE, x -> x.left(1, -2)));
        calls.add(call("ways(1, 1)", Due.UNKNOWN, x -> x.ways(1, 1)));
        calls.add(call("ways(6, 11)", Due.OUTSIDE, x -> x.ways(6, 11)));
        calls.add(call("term(-2)", Due.OUTSIDE, x -> x.term(-2)));
        calls.add(call("uses(2, 0)", Due.OUTSIDE, x -> x.uses(2, 0)));
        calls.add(call("uses(0, 8)", Due.UNKNOWN, x -> x.uses(0, 8)));
        calls.add(call("uses(1, 4)", Due.UNKNOWN, x -> x.uses(1, 4)));
        calls.add(call("put(-1)", Due.OUTSIDE, x -> x.put(-1)));
        calls.add(call("put(500)", Due.OUTSIDE, x -> x.put(500)));
        calls.add(call("trial(-1)", Due.OUTSIDE, x -> x.trial(-1)));
        calls.add(call("trial(2)", Due.OUTSIDE, x -> x.trial(2)));
        calls.add(call("check(3)", Due.OUTSIDE, x -> x.check(3)));
        calls.add(call("image(-1)", Due.OUTSIDE, x -> x.image(-1)));
        calls.add(call("image(2)", Due.OUTSIDE, x -> x.image(2)));
        calls.add(call("restore(-1)", Due.OUTSIDE, x -> x.restore(-1)));
        calls.add(call("restore(2)", Due.OUTSIDE, x -> x.restore(2)));
        calls.add(call("restore(1)", Due.STATE, x -> x.restore(1)));
        calls.add(call("count(8)", Due.OUTSIDE, x -> x.count(8)));
        return calls;
    }

    @Says(of = "Errors", words = "A call that returns one of them changes nothing,")
    static void refusedCallsChangeNothing() {
        String before = seen(rich());
        for (Call one : refused()) {
            OnceProver x = rich();
            one.isDueOn(x);
            Due.is("the fault after " + one.name(), x.fault(), 2);
            Due.same("what is seen after " + one.name(), seen(x), before);
        }
        String beforeWithoutGoal = seen(richWithoutGoal());
        for (Call one : WITHOUT_GOAL) {
            OnceProver x = richWithoutGoal();
            one.isDueOn(x);
            Due.is("the fault after " + one.name(), x.fault(), 2);
            Due.same("what is seen after " + one.name(), seen(x), beforeWithoutGoal);
        }
    }

    /** The call is FULL on an object that has been made so, and leaves what is seen as on one without the call. */
    private static void fullChangesNothing(String name, Consumer<OnceProver> make, ToIntFunction<OnceProver> run) {
        OnceProver plain = rich();
        make.accept(plain);
        OnceProver x = rich();
        make.accept(x);
        Due.is(name, run.applyAsInt(x), Due.FULL);
        Due.is("the fault after " + name, x.fault(), 2);
        Due.same("what is seen after " + name, seen(x), seen(plain));
    }

    @Says(of = "Errors", words = "A call that returns one of them changes nothing")
    static void fullCallsChangeNothing() {
        Consumer<OnceProver> sixOffers = x -> {
            x.wipe();
            Due.add(x, "r:e", "r:f", "r:g", "w:e", "w:f", "w:g");
            x.say('a');
        };
        fullChangesNothing("resource()", sixOffers, OnceProver::resource);
        fullChangesNothing("well()", sixOffers, OnceProver::well);
        Consumer<OnceProver> manyBrackets = x -> {
            x.wipe();
            Due.say(x, "a<[b][b]b");
        };
        fullChangesNothing("resource() with [", manyBrackets, OnceProver::resource);
        fullChangesNothing("well() with [", manyBrackets, OnceProver::well);
        fullChangesNothing("goal() with [", x -> {
            x.wipe();
            Due.say(x, "[a][b][c]d");
        }, OnceProver::goal);
        Consumer<OnceProver> manyNodes = x -> {
            x.wipe();
            Due.say(x, "a<" + "!".repeat(50) + "1");
        };
        fullChangesNothing("resource() with nodes", manyNodes, OnceProver::resource);
        fullChangesNothing("well() with nodes", manyNodes, OnceProver::well);
        fullChangesNothing("goal() with nodes", x -> {
            x.wipe();
            Due.say(x, "!".repeat(59) + "1");
        }, OnceProver::goal);
        fullChangesNothing("say('a')", x -> Due.say(x, "]".repeat(58)), x -> x.say('a'));
        fullChangesNothing("put(0)", x -> {
            for (int i = 0; i < 60; i++) {
                x.put(9);
            }
        }, x -> x.put(0));
    }

    @Says(of = "Errors", words = ", except what fault() tells after FAULT.")
    static void faultsChangeTheFaultAlone() {
        List<Call> calls = List.of(call("goal()", Due.FAULT, OnceProver::goal),
                call("resource()", Due.FAULT, OnceProver::resource), call("well()", Due.FAULT, OnceProver::well));
        for (Call one : calls) {
            OnceProver x = rich();
            x.wipe();
            Due.is("the fault of nothing: goal()", x.goal(), Due.FAULT);
            Due.is("the fault of nothing: fault()", x.fault(), 0);
            Due.say(x, "[a");
            one.isDueOn(x);
            Due.is("the fault after " + one.name(), x.fault(), one.name().equals("goal()") ? 2 : 0);
            Due.same("what is seen after " + one.name(), seen(x), seen(rich()));
        }
    }

    @Says(of = "Errors", words = "NONE (-6) means that there is no such value; it is returned only if no error applies.")
    static void noneAfterTheErrors() {
        OnceProver x = Due.with("r:a");
        Due.is("fault()", x.fault(), -6);
        Due.is("height(0)", x.height(0), Due.STATE);
        Due.is("left(10, 99)", x.left(10, 99), Due.STATE);
        Due.is("fewest()", x.fewest(), Due.STATE);
        Due.is("term(99)", x.term(99), Due.STATE);
        Due.add(x, "g:b");
        Due.is("height(2)", x.height(2), Due.UNKNOWN);
        Due.is("left(11, 99)", x.left(11, 99), Due.OUTSIDE);
        Due.is("left(10, -2)", x.left(10, -2), Due.OUTSIDE);
        Due.is("term(-2)", x.term(-2), Due.OUTSIDE);
        Due.is("height(1)", x.height(1), -6);
        Due.is("left(10, 99)", x.left(10, 99), -6);
        Due.is("fewest()", x.fewest(), -6);
        Due.is("term(-1)", x.term(-1), -6);
        Due.is("term(99)", x.term(99), -6);
    }

    @Says(of = "Errors", words = "`UNKNOWN = -1, OUTSIDE = -2, STATE = -3, FULL = -4, NONE = -6, FAULT = -7`: "
            + "Error codes, and NONE, which is no error.")
    static void constants() {
        Due.is("UNKNOWN", OnceProver.UNKNOWN, -1);
        Due.is("OUTSIDE", OnceProver.OUTSIDE, -2);
        Due.is("STATE", OnceProver.STATE, -3);
        Due.is("FULL", OnceProver.FULL, -4);
        Due.is("NONE", OnceProver.NONE, -6);
        Due.is("FAULT", OnceProver.FAULT, -7);
    }

    @Says(of = "Errors", words = "`MANY = 999999999`: The result of ways() if there are as many ways, or more.")
    static void many() {
        Due.is("MANY", OnceProver.MANY, 999999999);
        String eight = "(((%s&%s)&(%s&%s))&((%s&%s)&(%s&%s)))";
        OnceProver x = Due.with("w:a|a", "w:b<" + eight.replace("%s", "a"), "g:((b&b)&(b&b))");
        Due.is("two to the 32nd", x.ways(0, 10), 999999999);
        Due.add(x, "g:(((b&b)&(b&b))&b)");
        Due.is("two to the 40th", x.ways(0, 10), 999999999);
        Due.add(x, "g:" + eight.replace("%s", "b"));
        Due.is("two to the 64th", x.ways(0, 10), 999999999);
        Due.add(x, "g:(b*b)");
        Due.is("two to the 16th", x.ways(0, 10), 65536);
    }
}
