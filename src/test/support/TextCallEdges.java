/** The sentences of the promises 1 to 8. */
final class TextCallEdges {
    private TextCallEdges() {
    }

    @Says(of = "Promise 1", words = "Creates a prover without resources, wells and a goal;")
    static void newWithoutOffersAndGoal() {
        OnceProver x = new OnceProver();
        for (int what = 0; what <= 4; what++) {
            Due.is("count(" + what + ")", x.count(what), 0);
        }
        Due.is("drop(0, 0)", x.drop(0, 0), Due.UNKNOWN);
        Due.is("drop(1, 0)", x.drop(1, 0), Due.UNKNOWN);
        Due.is("drop(2, 0)", x.drop(2, 0), Due.STATE);
        Due.is("height(0)", x.height(0), Due.STATE);
    }

    @Says(of = "Promise 1", words = "the text and the trial are empty,")
    static void newWithoutTextAndTrial() {
        OnceProver x = new OnceProver();
        Due.is("count(5)", x.count(5), 0);
        Due.is("count(6)", x.count(6), 0);
        Due.is("wipe()", x.wipe(), 0);
        Due.is("say('1')", x.say('1'), 1);
        Due.is("goal()", x.goal(), 1);
        Due.is("check(0)", x.check(0), 0);
        Due.is("put(0)", x.put(0), 1);
    }

    @Says(of = "Promise 1", words = "no fault has been found,")
    static void newWithoutFault() {
        Due.is("fault()", new OnceProver().fault(), Due.NONE);
    }

    @Says(of = "Promise 1", words = "and nothing is saved.")
    static void newWithoutImages() {
        OnceProver x = new OnceProver();
        Due.is("count(7)", x.count(7), 0);
        Due.is("restore(0)", x.restore(0), Due.STATE);
        Due.is("restore(1)", x.restore(1), Due.STATE);
    }

    @Says(of = "Promise 2", words = "Appends a character to the text.")
    static void sayAppends() {
        OnceProver x = new OnceProver();
        x.say('!');
        x.say('1');
        Due.is("goal() of !1", x.goal(), 2);
        x.say('1');
        x.say('!');
        Due.is("goal() of 1!", x.goal(), Due.FAULT);
        Due.is("fault()", x.fault(), 1);
    }

    @Says(of = "Promise 2", words = "`sign`: its code, 33 to 126")
    static void sayEachCode() {
        OnceProver x = new OnceProver();
        for (int sign = 33; sign <= 126; sign++) {
            Due.is("say(" + sign + ")", x.say(sign), 1);
            x.wipe();
        }
    }

    @Says(of = "Promise 2", words = "Returns the new length of the text;")
    static void sayReturnsLength() {
        OnceProver x = new OnceProver();
        for (int length = 1; length <= 60; length++) {
            Due.is("say of number " + length, x.say('a'), length);
        }
    }

    @Says(of = "Promise 2", words = "OUTSIDE if sign is out of range;")
    static void sayOutside() {
        OnceProver x = new OnceProver();
        for (int sign : new int[] {Integer.MIN_VALUE, -1, 0, 32, 127, 128, 65536 + 33, Integer.MAX_VALUE}) {
            Due.is("say(" + sign + ")", x.say(sign), Due.OUTSIDE);
        }
        Due.is("count(5)", x.count(5), 0);
    }

    @Says(of = "Promise 2", words = "FULL if the text has 60 characters.")
    static void sayFull() {
        OnceProver x = new OnceProver();
        Due.say(x, "a".repeat(59));
        Due.is("say to 59", x.say('b'), 60);
        Due.is("say to 60", x.say('c'), Due.FULL);
        Due.is("say to 60 again", x.say('c'), Due.FULL);
        Due.is("count(5)", x.count(5), 60);
        x.wipe();
        Due.is("say after wipe", x.say('c'), 1);
    }

    @Says(of = "Promise 3", words = "Empties the text.")
    static void wipeEmpties() {
        OnceProver x = new OnceProver();
        Due.say(x, "(a");
        x.wipe();
        Due.is("count(5)", x.count(5), 0);
        x.say('T');
        Due.is("goal() afterwards", x.goal(), 1);
    }

    @Says(of = "Promise 3", words = "Returns the length that it had.")
    static void wipeReturnsLength() {
        OnceProver x = new OnceProver();
        Due.is("wipe() of nothing", x.wipe(), 0);
        x.say('a');
        Due.is("wipe() of one", x.wipe(), 1);
        Due.say(x, "a".repeat(60));
        Due.is("wipe() of sixty", x.wipe(), 60);
        Due.is("wipe() again", x.wipe(), 0);
    }

    /** Reads the text as a resource or as a well. */
    private static int read(OnceProver x, boolean well, String text) {
        x.wipe();
        Due.say(x, text);
        return well ? x.well() : x.resource();
    }

    private static void isReadAsOffer(boolean well) {
        OnceProver x = Due.with("g:(a&b)");
        Due.is("reading a|b", read(x, well, "a|b"), 0);
        Due.is("the length of the text", x.count(5), 0);
        Due.is("count(0)", x.count(0), well ? 0 : 1);
        Due.is("count(1)", x.count(1), well ? 1 : 0);
        Due.is("height", x.height(well ? 0 : 1), 2);
        Due.is("reading 60 characters", read(x, well, "a|a<" + "!".repeat(55) + "1"), 1);
        Due.is("count(3)", x.count(3), 59);
    }

    private static void numbersAre(boolean well, int greatest) {
        OnceProver x = new OnceProver();
        for (int n = 0; n <= greatest; n++) {
            Due.is("its number", read(x, well, "a"), n);
        }
        x.drop(well ? 1 : 0, 1);
        Due.is("the number that is free", read(x, well, "a"), 1);
    }

    private static void noOffers(boolean well) {
        OnceProver x = new OnceProver();
        for (String text : new String[] {"", "1", "T", "!a", "(a*b)", "[a]b", "a<", "a|", "a|b|", "a|b|c|d", "ab", "a<b<c"}) {
            Due.is("reading \"" + text + "\"", read(x, well, text), Due.FAULT);
            Due.is("the length of the text", x.count(5), text.length());
        }
        Due.is("count(0)", x.count(0), 0);
        Due.is("count(1)", x.count(1), 0);
    }

    /** With 58 nodes that are there, one of the other kind among them. */
    private static void nodesMakeFull(boolean well) {
        OnceProver x = Due.with("r:a<" + "!".repeat(19) + "1", "w:a<" + "!".repeat(19) + "1", "g:" + "!".repeat(17) + "1");
        Due.is("61 nodes", read(x, well, "a<!!1"), Due.FULL);
        Due.is("61 nodes in two faces", read(x, well, "a<1|b|a<!1"), Due.FULL);
        Due.is("60 nodes", read(x, well, "a<1|b|a<1"), 1);
        Due.is("61 nodes again", read(x, well, "a<1"), Due.FULL);
        Due.is("no node more", read(x, well, "a|b|c"), 2);
        Due.is("count(3)", x.count(3), 60);
    }

    private static void bracketsMakeFull(boolean well) {
        OnceProver x = Due.with("r:a<[b]b", "w:a", "g:[b]b");
        Due.is("four [", read(x, well, "a<[b][c]b"), Due.FULL);
        Due.is("four [, one in the other", read(x, well, "a<[b<[c]c]b"), Due.FULL);
        Due.is("three [", read(x, well, "a<[b]b"), 1);
        Due.is("four [ again", read(x, well, "a<[b]b"), Due.FULL);
        Due.is("no [ more", read(x, well, "a<b"), 2);
        Due.is("count(4)", x.count(4), 3);
    }

    @Says(of = "Promise 4", words = "Reads the text as an offer, which becomes a resource, and empties the text.")
    static void resourceReads() {
        isReadAsOffer(false);
    }

    @Says(of = "Promise 4", words = "Returns the number of the resource;")
    static void resourceNumber() {
        numbersAre(false, 4);
    }

    @Says(of = "Promise 4", words = "FAULT if the text is not an offer;")
    static void resourceFault() {
        noOffers(false);
    }

    @Says(of = "Promise 4", words = "FULL if there are five resources,")
    static void resourceFullOfResources() {
        OnceProver x = Due.with("r:a", "r:a", "r:a", "r:a");
        Due.is("a fifth", read(x, false, "a"), 4);
        Due.is("a sixth", read(x, false, "a"), Due.FULL);
        Due.is("the length of its text", x.count(5), 1);
        Due.is("a well is no resource", x.well(), 0);
        x.drop(0, 0);
        Due.is("when one is gone", read(x, false, "a"), 0);
        Due.is("when it is there again", read(x, false, "a"), Due.FULL);
    }

    @Says(of = "Promise 4", words = "or if there would be more than 60 nodes")
    static void resourceFullOfNodes() {
        nodesMakeFull(false);
    }

    @Says(of = "Promise 4", words = "or more than three characters [.")
    static void resourceFullOfBrackets() {
        bracketsMakeFull(false);
    }

    @Says(of = "Promise 5", words = "Reads the text as an offer, which becomes a well, and empties the text.")
    static void wellReads() {
        isReadAsOffer(true);
    }

    @Says(of = "Promise 5", words = "Returns the number of the well;")
    static void wellNumber() {
        numbersAre(true, 3);
    }

    @Says(of = "Promise 5", words = "FAULT if the text is not an offer;")
    static void wellFault() {
        noOffers(true);
    }

    @Says(of = "Promise 5", words = "FULL if there are four wells,")
    static void wellFullOfWells() {
        OnceProver x = Due.with("w:a", "w:a", "w:a");
        Due.is("a fourth", read(x, true, "a"), 3);
        Due.is("a fifth", read(x, true, "a"), Due.FULL);
        Due.is("the length of its text", x.count(5), 1);
        Due.is("a resource is no well", x.resource(), 0);
        x.drop(1, 0);
        Due.is("when one is gone", read(x, true, "a"), 0);
        Due.is("when it is there again", read(x, true, "a"), Due.FULL);
    }

    @Says(of = "Promise 5", words = "or if there would be more than 60 nodes")
    static void wellFullOfNodes() {
        nodesMakeFull(true);
    }

    @Says(of = "Promise 5", words = "or more than three characters [.")
    static void wellFullOfBrackets() {
        bracketsMakeFull(true);
    }

    private static int readGoal(OnceProver x, String text) {
        x.wipe();
        Due.say(x, text);
        return x.goal();
    }

    @Says(of = "Promise 6", words = "Reads the text as a goal, which replaces the present goal, and empties the text.")
    static void goalReads() {
        OnceProver x = Due.with("r:a");
        Due.is("the first goal", readGoal(x, "(a&a)"), 3);
        Due.is("the length of the text", x.count(5), 0);
        Due.is("height(1)", x.height(1), 2);
        Due.is("the goal instead", readGoal(x, "a"), 1);
        Due.is("the length of the text", x.count(5), 0);
        Due.is("height(1)", x.height(1), 1);
        Due.is("count(3)", x.count(3), 1);
    }

    @Says(of = "Promise 6", words = "Returns the number of nodes of the new goal;")
    static void goalNodes() {
        OnceProver x = Due.with("r:a<(b*c)", "w:a<1");
        Due.is("the least goal", readGoal(x, "T"), 1);
        Due.is("a goal instead", readGoal(x, "[a|b|c<1]!d"), 4);
        Due.is("the greatest goal", readGoal(new OnceProver(), "!".repeat(59) + "a"), 60);
    }

    @Says(of = "Promise 6", words = "FAULT if the text is not a goal;")
    static void goalFault() {
        OnceProver x = Due.with("g:1");
        for (String text : new String[] {"", "i", "a<b", "a|b", "!", "(a)", "(a*b", "(a*b*c)", "[a]", "[1]a", "ab", "aa)"}) {
            Due.is("reading \"" + text + "\"", readGoal(x, text), Due.FAULT);
            Due.is("the length of the text", x.count(5), text.length());
        }
        Due.is("the goal that stays", x.height(0), 1);
    }

    @Says(of = "Promise 6", words = "FULL if there would be more than 60 nodes")
    static void goalFullOfNodes() {
        OnceProver x = Due.with("r:a<" + "!".repeat(19) + "1", "w:a<" + "!".repeat(19) + "1");
        Due.is("61 nodes", readGoal(x, "!".repeat(20) + "1"), Due.FULL);
        Due.is("count(2)", x.count(2), 0);
        Due.is("60 nodes", readGoal(x, "!".repeat(19) + "1"), 20);
        Due.is("61 nodes instead", readGoal(x, "!".repeat(20) + "1"), Due.FULL);
        Due.is("count(3)", x.count(3), 60);
    }

    @Says(of = "Promise 6", words = "or more than three characters [")
    static void goalFullOfBrackets() {
        OnceProver x = new OnceProver();
        Due.is("four [", readGoal(x, "[a][a][a][a]a"), Due.FULL);
        Due.is("three [", readGoal(x, "[a][a][a]a"), 4);
        OnceProver y = Due.with("r:a<[a]a", "w:a<[a]a");
        Due.is("four [ in all", readGoal(y, "[a<[a]a]a"), Due.FULL);
        Due.is("count(2)", y.count(2), 0);
        Due.is("three [ in all", readGoal(y, "[a]a"), 2);
    }

    @Says(of = "Promise 6", words = "(without those of the goal that is replaced).")
    static void goalFullWithoutTheOldOne() {
        OnceProver x = Due.with("r:a<" + "!".repeat(19) + "1", "g:" + "!".repeat(39) + "1");
        Due.is("as many nodes", readGoal(x, "!".repeat(39) + "T"), 40);
        Due.is("one too many", readGoal(x, "!".repeat(40) + "T"), Due.FULL);
        Due.is("fewer nodes", readGoal(x, "T"), 1);
        OnceProver y = Due.with("r:a<[a]a", "g:[b][b]b");
        Due.is("as many [", readGoal(y, "[c<[c]c]c"), 4);
        Due.is("one too many [", readGoal(y, "[c][c][c]c"), Due.FULL);
        Due.is("fewer [", readGoal(y, "[c]c"), 2);
        Due.is("count(4)", y.count(4), 2);
    }

    @Says(of = "Promise 7", words = "Returns the fault of the latest call that returned FAULT.")
    static void faultOfTheLatest() {
        OnceProver x = new OnceProver();
        Due.is("goal (a", readGoal(x, "(a"), Due.FAULT);
        Due.is("fault() of the goal", x.fault(), 2);
        Due.is("resource a", read(x, false, "a"), 0);
        Due.is("say(0)", x.say(0), Due.OUTSIDE);
        Due.is("four [", readGoal(x, "[a][a][a][a]a"), Due.FULL);
        Due.is("fault() stays", x.fault(), 2);
        Due.is("resource a<b<", read(x, false, "a<b<"), Due.FAULT);
        Due.is("fault() of the resource", x.fault(), 3);
        Due.is("well 1", read(x, true, "1"), Due.FAULT);
        Due.is("fault() of the well", x.fault(), 0);
        x.wipe();
        x.image(0);
        x.restore(0);
        Due.is("fault() stays", x.fault(), 0);
        Due.is("fault() asked twice", x.fault(), 0);
    }

    @Says(of = "Promise 7", words = "Returns the fault;")
    static void faultFromZeroToSixty() {
        OnceProver x = new OnceProver();
        Due.is("goal of nothing", x.goal(), Due.FAULT);
        Due.is("the least fault", x.fault(), 0);
        Due.is("goal of 60", readGoal(x, "!".repeat(60)), Due.FAULT);
        Due.is("the greatest fault", x.fault(), 60);
    }

    @Says(of = "Promise 7", words = "NONE if there was no such call.")
    static void faultNone() {
        OnceProver x = Due.with("r:a", "w:a", "g:a");
        Due.is("say(0)", x.say(0), Due.OUTSIDE);
        Due.is("drop(0, 3)", x.drop(0, 3), Due.UNKNOWN);
        Due.is("four [", readGoal(x, "[a][a][a][a]a"), Due.FULL);
        Due.is("fault()", x.fault(), Due.NONE);
    }

    @Says(of = "Promise 8", words = "Removes a resource, a well, or the goal.")
    static void dropRemoves() {
        OnceProver x = Due.with("r:a", "r:b<[c]c", "w:a", "w:b<[c]c", "g:[a]a");
        x.drop(0, 1);
        Due.is("count(0)", x.count(0), 1);
        Due.is("count(3)", x.count(3), 4);
        Due.is("count(4)", x.count(4), 2);
        x.drop(1, 0);
        Due.is("count(1)", x.count(1), 2);
        x.drop(2, 0);
        Due.is("count(2)", x.count(2), 0);
        Due.is("count(3)", x.count(3), 2);
        Due.is("count(4)", x.count(4), 1);
        Due.add(x, "g:a");
        Due.is("the resource that stays", x.height(1), 1);
        Due.is("without the well", x.height(0), Due.NONE);
        x.drop(0, 0);
        Due.is("without the resource", x.height(1), Due.UNKNOWN);
    }

    @Says(of = "Promise 8", words = "Removes a resource, a well, or the goal.")
    static void dropRemovesWhatHasBeenUsed() {
        OnceProver x = Due.with("r:c", "w:a", "w:d<c", "r:c|c<[e]e", "g:(a*(d*T))");
        Due.same("the code with all", Due.code(x), "200,100,201,110,0");
        x.drop(0, 0);
        Due.same("the code without a resource", Due.code(x), "200,100,202,110,10");
        Due.add(x, "r:c<1");
        Due.same("the code with another resource", Due.code(x), "200,100,202,110,10");
        x.drop(0, 1);
        Due.same("the code with that alone", Due.code(x), "200,100,201,110,0");
        x.drop(1, 0);
        Due.same("the code without a well", Due.code(x), "none");
        Due.is("height(1) without a well", x.height(1), Due.NONE);
        Due.is("ways(1, 10) without a well", x.ways(1, 10), 0);
        Due.add(x, "w:a<h");
        Due.is("height(1) with another well", x.height(1), Due.NONE);
        Due.add(x, "w:h");
        Due.is("height(1) with a third well", x.height(1), 5);
        x.drop(2, 0);
        Due.is("height(1) without a goal", x.height(1), Due.STATE);
    }

    @Says(of = "Promise 8", words = "`kind`: 0: a resource; 1: a well; 2: the goal")
    static void dropKinds() {
        OnceProver x = Due.with("r:a", "w:a", "g:a");
        Due.is("drop(0, 0)", x.drop(0, 0), 0);
        Due.is("count(0) + count(1) + count(2)", x.count(0) + 10 * x.count(1) + 100 * x.count(2), 110);
        Due.is("drop(1, 0)", x.drop(1, 0), 0);
        Due.is("count(0) + count(1) + count(2)", x.count(0) + 10 * x.count(1) + 100 * x.count(2), 100);
        Due.is("drop(2, 0)", x.drop(2, 0), 0);
        Due.is("count(2)", x.count(2), 0);
    }

    @Says(of = "Promise 8", words = "`n`: number of the resource or well; for the goal any int")
    static void dropNumbers() {
        OnceProver x = Due.with("r:a", "r:a", "r:a", "r:a", "r:a", "w:a", "w:a", "w:a", "w:a");
        Due.is("drop(0, 4)", x.drop(0, 4), 4);
        Due.is("drop(1, 3)", x.drop(1, 3), 3);
        for (int n : new int[] {Integer.MIN_VALUE, -1, 0, 1, 5, Integer.MAX_VALUE}) {
            Due.add(x, "g:a");
            Due.is("drop(2, " + n + ")", x.drop(2, n), 0);
        }
    }

    @Says(of = "Promise 8", words = "Returns how many of this kind are there then;")
    static void dropReturns() {
        OnceProver x = Due.with("r:a", "r:a", "r:a", "r:a", "r:a", "w:a", "w:a", "w:a", "w:a", "g:a");
        int[] resources = {3, 0, 4, 1, 2};
        for (int i = 0; i < resources.length; i++) {
            Due.is("drop(0, " + resources[i] + ")", x.drop(0, resources[i]), 4 - i);
        }
        int[] wells = {2, 0, 3, 1};
        for (int i = 0; i < wells.length; i++) {
            Due.is("drop(1, " + wells[i] + ")", x.drop(1, wells[i]), 3 - i);
        }
        Due.is("drop(2, 0)", x.drop(2, 0), 0);
    }

    @Says(of = "Promise 8", words = "OUTSIDE if kind is not 0 to 2;")
    static void dropOutside() {
        OnceProver x = Due.with("r:a", "w:a", "g:a");
        for (int kind : new int[] {Integer.MIN_VALUE, -1, 3, Integer.MAX_VALUE}) {
            Due.is("drop(" + kind + ", 0)", x.drop(kind, 0), Due.OUTSIDE);
        }
    }

    @Says(of = "Promise 8", words = "UNKNOWN if there is no such resource or well;")
    static void dropUnknown() {
        OnceProver x = Due.with("r:a", "r:a", "w:a", "w:a", "g:a");
        x.drop(0, 0);
        x.drop(1, 1);
        for (int n : new int[] {Integer.MIN_VALUE, -1, 0, 2, 4, 5, 6, Integer.MAX_VALUE}) {
            Due.is("drop(0, " + n + ")", x.drop(0, n), Due.UNKNOWN);
        }
        for (int n : new int[] {Integer.MIN_VALUE, -1, 1, 2, 3, 4, Integer.MAX_VALUE}) {
            Due.is("drop(1, " + n + ")", x.drop(1, n), Due.UNKNOWN);
        }
        Due.is("count(0)", x.count(0), 2);
        Due.is("count(1)", x.count(1), 1);
    }

    @Says(of = "Promise 8", words = "STATE for kind 2 if there is no goal.")
    static void dropState() {
        OnceProver x = Due.with("r:a", "w:a");
        Due.is("drop(2, 0)", x.drop(2, 0), Due.STATE);
        Due.is("drop(2, -1)", x.drop(2, -1), Due.STATE);
        Due.is("drop(0, 0) needs no goal", x.drop(0, 0), 0);
        Due.is("drop(1, 0) needs no goal", x.drop(1, 0), 0);
    }
}
