/** The sentences of the section "Texts". */
final class TextEdges {
    private static final String GOAL_BEGINS = "!(1T[abcdefgh";
    private static final String ATOMS = "abcdefgh";

    private TextEdges() {
    }

    @Says(of = "Texts", words = "The text is a buffer of at most 60 characters")
    static void textHoldsSixty() {
        OnceProver x = new OnceProver();
        Due.say(x, "!".repeat(59));
        Due.is("the 60th say", x.say('T'), 60);
        Due.is("the 61st say", x.say('T'), Due.FULL);
        Due.is("goal() of 60", x.goal(), 60);
    }

    @Says(of = "Texts", words = "(codes 33 to 126, ASCII).")
    static void codesOfCharacters() {
        OnceProver x = new OnceProver();
        Due.is("say(33)", x.say(33), 1);
        Due.is("say(126)", x.say(126), 2);
        int[] strange = {32, 127, 0, -1, 128, 256 + 'a', 65536 + 'a', Integer.MIN_VALUE, Integer.MAX_VALUE};
        for (int sign : strange) {
            Due.is("say(" + sign + ")", x.say(sign), Due.OUTSIDE);
        }
    }

    @Says(of = "Texts", words = "Goals and offers are read from it by this grammar, in which there are no spaces:")
    static void noSpaces() {
        OnceProver x = new OnceProver();
        Due.say(x, "(a");
        for (int space : new int[] {' ', '\t', '\n', '\r', 160}) {
            Due.is("say(" + space + ")", x.say(space), Due.OUTSIDE);
        }
        Due.say(x, "*b)");
        Due.is("goal()", x.goal(), 3);
    }

    /** The signs that can stand behind the beginning of a text, in the order of their codes. */
    private static String signsBehind(String begun, boolean offer) {
        StringBuilder signs = new StringBuilder();
        for (char sign = 33; sign <= 126; sign++) {
            OnceProver x = new OnceProver();
            Due.say(x, begun + sign);
            int answer = offer ? x.resource() : x.goal();
            if (answer != Due.FAULT || x.fault() != begun.length()) {
                signs.append(sign);
            }
        }
        return signs.toString();
    }

    private static void goalGoesOn(String begun, String signs) {
        Due.same("what can stand in a goal behind \"" + begun + "\"", signsBehind(begun, false), signs);
    }

    private static void offerGoesOn(String begun, String signs) {
        Due.same("what can stand in an offer behind \"" + begun + "\"", signsBehind(begun, true), signs);
    }

    @Says(of = "Texts", words = "goal = atom | \"1\" | \"T\" | \"!\" goal | \"(\" goal \"*\" goal \")\" | \"(\" goal \"&\" goal \")\" "
            + "| \"(\" goal \"+\" goal \")\" | \"[\" offer \"]\" goal")
    static void grammarOfGoals() {
        goalGoesOn("", GOAL_BEGINS);
        goalGoesOn("a", "");
        goalGoesOn("1", "");
        goalGoesOn("T", "");
        goalGoesOn("!", GOAL_BEGINS);
        goalGoesOn("(", GOAL_BEGINS);
        goalGoesOn("(a", "&*+");
        goalGoesOn("((a*b)", "&*+");
        goalGoesOn("(a*", GOAL_BEGINS);
        goalGoesOn("(a&", GOAL_BEGINS);
        goalGoesOn("(a+", GOAL_BEGINS);
        goalGoesOn("(a*b", ")");
        goalGoesOn("(a&b", ")");
        goalGoesOn("(a+b", ")");
        goalGoesOn("(a+b)", "");
        goalGoesOn("[", ATOMS);
        goalGoesOn("[a]", GOAL_BEGINS);
        goalGoesOn("[a]b", "");
        goalGoesOn("([a]b", "&*+");
    }

    @Says(of = "Texts", words = "offer = face [ \"|\" face [ \"|\" face ] ]")
    static void grammarOfOffers() {
        offerGoesOn("", ATOMS);
        offerGoesOn("a", "<|");
        offerGoesOn("a|", ATOMS);
        offerGoesOn("a|b", "<|");
        offerGoesOn("a|b|", ATOMS);
        offerGoesOn("a|b|c", "<");
        offerGoesOn("a<1|b<1|c<1", "");
        goalGoesOn("[a", "<]|");
        goalGoesOn("[a|b|c", "<]");
        goalGoesOn("[a|b|c<1", "]");
    }

    @Says(of = "Texts", words = "face = atom [ \"<\" goal ]")
    static void grammarOfFaces() {
        offerGoesOn("a<", GOAL_BEGINS);
        offerGoesOn("a<b", "|");
        offerGoesOn("a<(b*c)", "|");
        offerGoesOn("a<[b]c", "|");
        goalGoesOn("[a<b", "]|");
    }

    @Says(of = "Texts", words = "atom = \"a\" to \"h\"")
    static void atoms() {
        for (char atom = 'a'; atom <= 'h'; atom++) {
            Due.is("height with " + atom, Due.with("r:" + atom, "g:" + atom).height(1), 1);
        }
        for (char sign : new char[] {'`', 'i', 'A', 'H', 'z'}) {
            OnceProver x = new OnceProver();
            x.say(sign);
            Due.is("goal " + sign, x.goal(), Due.FAULT);
            Due.is("resource " + sign, x.resource(), Due.FAULT);
        }
    }

    @Says(of = "Texts", words = "The atom of a face is its head, the goal behind \"<\", if there is one, is its body.")
    static void headAndBody() {
        Due.is("a head alone", Due.with("r:a", "g:a").height(1), 1);
        Due.is("a head with a body", Due.with("r:a<1", "g:a").height(1), 2);
        Due.is("a body is no head", Due.with("r:a<b", "g:b").height(1), Due.NONE);
    }

    @Says(of = "Texts", words = "The faces of an offer are numbered 0 to 2 from the left.")
    static void facesFromTheLeft() {
        OnceProver x = Due.with("r:a|b|c", "w:d|e|f");
        String[] goals = {"(a*d)", "(b*e)", "(c*f)"};
        for (int face = 0; face <= 2; face++) {
            Due.add(x, "g:" + goals[face]);
            Due.same("the code of " + goals[face], Due.code(x), "201," + face + "," + (100 + face));
        }
    }

    private static void nodesAre(String text, int nodes) {
        Due.is("the nodes of " + text, Due.with(text).count(3), nodes);
    }

    @Says(of = "Texts", words = "The nodes of a text are its atoms that are goals (heads are not counted), "
            + "and its characters 1, T, !, *, &, + and [.")
    static void whatNodesAre() {
        nodesAre("r:a", 0);
        nodesAre("r:a|b|c", 0);
        nodesAre("w:a|b<c|d<1", 2);
        nodesAre("g:a", 1);
        nodesAre("g:1", 1);
        nodesAre("g:T", 1);
        nodesAre("g:!T", 2);
        nodesAre("g:(a*1)", 3);
        nodesAre("g:(a&1)", 3);
        nodesAre("g:(a+1)", 3);
        nodesAre("g:[a|b|c]d", 2);
        nodesAre("g:[a<b]c", 3);
    }

    /** The fault of the text as a goal. */
    private static void faultIs(String text, int fault) {
        OnceProver x = new OnceProver();
        Due.say(x, text);
        Due.is("goal " + text, x.goal(), Due.FAULT);
        Due.is("the fault of " + text, x.fault(), fault);
    }

    @Says(of = "Texts", words = "The fault of a text is the index, from 0, of the first character "
            + "that cannot stand at its place, given the characters before it;")
    static void faultOfAStrangeCharacter() {
        faultIs(")", 0);
        faultIs("ab", 1);
        faultIs("(a*b)c", 5);
        faultIs("a))))", 1);
        faultIs("(i*i)", 1);
        faultIs("!".repeat(59) + "i", 59);
        faultIs("!".repeat(58) + "aa", 59);
        faultIs("(".repeat(59) + ")", 59);
    }

    @Says(of = "Texts", words = "if there is none and the text is not complete, it is the length of the text.")
    static void faultOfAnIncompleteText() {
        faultIs("", 0);
        faultIs("!", 1);
        faultIs("(a*b", 4);
        faultIs("[a]", 3);
        faultIs("!".repeat(60), 60);
        faultIs("(".repeat(60), 60);
        faultIs("[a<".repeat(20), 60);
        OnceProver x = new OnceProver();
        Due.is("resource() of nothing", x.resource(), Due.FAULT);
        Due.is("its fault", x.fault(), 0);
        Due.say(x, "a|b|");
        Due.is("well a|b|", x.well(), Due.FAULT);
        Due.is("its fault", x.fault(), 4);
    }

    @Says(of = "Texts", words = "There are up to five resources, numbered 0 to 4,")
    static void fiveResources() {
        OnceProver x = new OnceProver();
        for (int n = 0; n <= 4; n++) {
            x.say('a');
            Due.is("resource() " + n, x.resource(), n);
        }
        x.say('a');
        Due.is("a sixth resource()", x.resource(), Due.FULL);
        Due.is("count(0)", x.count(0), 31);
    }

    @Says(of = "Texts", words = "and up to four wells, numbered 0 to 3, which are offers;")
    static void fourWells() {
        OnceProver x = new OnceProver();
        for (int n = 0; n <= 3; n++) {
            x.say('a');
            Due.is("well() " + n, x.well(), n);
        }
        x.say('a');
        Due.is("a fifth well()", x.well(), Due.FULL);
        Due.is("count(1)", x.count(1), 15);
    }

    @Says(of = "Texts", words = "a new one gets the lowest number that is free.")
    static void lowestFreeNumber() {
        OnceProver x = Due.with("r:a", "r:a", "r:a", "r:a", "r:a", "w:a", "w:a", "w:a", "w:a");
        int[][] dropped = {{0, 4}, {0, 0}, {0, 2}, {1, 3}, {1, 1}};
        for (int[] one : dropped) {
            x.drop(one[0], one[1]);
        }
        for (int n : new int[] {0, 2, 4}) {
            x.say('b');
            Due.is("resource()", x.resource(), n);
        }
        for (int n : new int[] {1, 3}) {
            x.say('b');
            Due.is("well()", x.well(), n);
        }
    }

    @Says(of = "Texts", words = "There is at most one goal.")
    static void oneGoal() {
        OnceProver x = Due.with("r:a", "g:(a*1)", "g:T");
        Due.is("count(2)", x.count(2), 1);
        Due.is("count(3)", x.count(3), 1);
        Due.is("drop(2, 0)", x.drop(2, 0), 0);
        Due.is("drop(2, 0) again", x.drop(2, 0), Due.STATE);
        Due.is("height(1)", x.height(1), Due.STATE);
    }

    /** The answers to a resource, a well and a goal with as many nodes more, each on a new object. */
    private static void nodesMore(int more, int answer, String... texts) {
        String body = "!".repeat(more - 1) + "1";
        OnceProver x = Due.with(texts);
        Due.say(x, "a<" + body);
        Due.is("a resource with " + more + " nodes more", x.resource(), answer);
        OnceProver y = Due.with(texts);
        Due.say(y, "a<" + body);
        Due.is("a well with " + more + " nodes more", y.well(), answer);
        OnceProver z = Due.with(texts);
        Due.say(z, body);
        Due.is("a goal with " + more + " nodes more", z.goal(), answer < 0 ? answer : more);
    }

    @Says(of = "Texts", words = "All of them together have at most 60 nodes,")
    static void sixtyNodes() {
        String body = "!".repeat(19) + "1";
        nodesMore(20, 1, "r:a<" + body, "w:a<" + body);
        nodesMore(21, Due.FULL, "r:a<" + body, "w:a<" + body);
        OnceProver x = Due.with("r:a<" + body, "w:a<" + body, "g:" + body);
        Due.is("count(3)", x.count(3), 60);
        x.say('a');
        Due.is("a resource without nodes", x.resource(), 1);
    }

    @Says(of = "Texts", words = "and at most three characters [.")
    static void threeBrackets() {
        OnceProver x = Due.with("r:a<[b]b", "w:a<[b]b");
        Due.say(x, "[a][b]c");
        Due.is("a goal with a second one", x.goal(), Due.FULL);
        x.wipe();
        Due.say(x, "[a]b");
        Due.is("a goal with one", x.goal(), 2);
        Due.is("count(4)", x.count(4), 3);
        Due.say(x, "a<[b]b");
        Due.is("a resource with a fourth", x.resource(), Due.FULL);
        Due.is("a well with a fourth", x.well(), Due.FULL);
    }

    @Says(of = "Texts", words = "The offers in square brackets are the loans.")
    static void loans() {
        Due.same("a loan alone", Due.code(Due.with("g:[a]a")), "50");
        Due.same("a loan with faces", Due.code(Due.with("g:[a|b|c<1]c")), "52");
    }

    @Says(of = "Texts", words = "They have the numbers 5, 6 and 7 in this order: those in the goal, "
            + "then those in the resources by their numbers, then those in the wells by their numbers,")
    static void loansFromGoalToWells() {
        OnceProver x = Due.with("w:c<[f]f", "r:b<[e]e", "g:[d](d*(b*c))");
        Due.same("goal, resource, well", Due.code(x), "232,50,201,0,60,100,70");
        Due.add(x, "g:(b*c)");
        Due.same("resource, well", Due.code(x), "201,0,50,100,60");
        OnceProver y = Due.with("r:h", "r:b<[e]e", "r:c<[f]f");
        y.drop(0, 0);
        Due.add(y, "r:a<[d]d", "g:(a*(b*c))");
        Due.same("resources", Due.code(y), "201,0,50,202,10,60,20,70");
        OnceProver z = Due.with("w:h", "w:b<[e]e", "w:c<[f]f");
        z.drop(1, 0);
        Due.add(z, "w:a<[d]d", "g:(a*(b*c))");
        Due.same("wells", Due.code(z), "200,100,50,200,110,60,120,70");
    }

    @Says(of = "Texts", words = "within a text in the order of the characters [.")
    static void loansWithinAText() {
        Due.same("one behind the other", Due.code(Due.with("g:[a][b][c](a*(b*c))")), "232,50,264,60,70");
        Due.same("one in the other", Due.code(Due.with("g:[a<[b]b][c](c*a)")), "328,70,50,60");
        Due.same("in the faces of a well", Due.code(Due.with("w:a<[d]d|b<[e]e|c<[f]f", "g:(a*(b*c))")),
                "200,100,50,200,101,60,102,70");
    }

    @Says(of = "Texts", words = "The resources and the loans are the single-use offers, 0 to 7.")
    static void singleUseOffers() {
        OnceProver x = Due.with("r:a", "r:a", "r:a", "r:a", "r:a", "g:[a][a][a](((a*a)*(a*a))*((a*a)*(a*a)))");
        Due.same("all eight", Due.code(x), "215,203,201,0,10,204,20,30,248,216,40,50,264,60,70");
        for (int n = 0; n <= 7; n++) {
            Due.is("uses(0, " + n + ")", x.uses(0, n), 1);
        }
        OnceProver y = Due.with("r:a", "r:b", "r:c", "r:d", "r:e");
        String others = "g:[f][g][h](((a*b)*(c*d))*((e*f)*(g*(h*";
        for (char atom = 'a'; atom <= 'h'; atom++) {
            Due.add(y, others + atom + "))))");
            Due.is("not a second " + atom, y.height(31), Due.NONE);
        }
        Due.add(y, others + "1))))");
        Due.is("no second one", y.height(31), 8);
    }

    @Says(of = "Texts", words = "Sets of them are bit masks: bit i stands for number i.")
    static void sets() {
        OnceProver x = Due.with("r:a", "r:b", "r:c", "r:d", "r:e");
        for (int n = 0; n <= 4; n++) {
            Due.add(x, "g:" + (char) ('a' + n));
            for (int other = 0; other <= 4; other++) {
                Due.is("height of number " + other, x.height(1 << other), n == other ? 1 : Due.NONE);
            }
        }
        Due.same("the set of a loan", Due.code(Due.with("g:[a][b][c](c*(b*a))")), "328,70,264,60,50");
    }

    @Says(of = "Texts", words = "\"All resources\" is the set of all resources that are there.")
    static void allResources() {
        OnceProver x = Due.with("w:f", "g:[g]T");
        Due.is("none: fewest()", x.fewest(), 0);
        Due.is("none: left(10, -1)", x.left(10, -1), 1);
        Due.add(x, "r:a", "r:b", "r:c", "r:d", "r:e");
        Due.is("five: the greatest set left", x.left(10, 31), 31);
        x.drop(0, 0);
        x.drop(0, 3);
        Due.is("three: the greatest set left", x.left(10, 7), 22);
        Due.is("three: no more sets", x.left(10, 8), Due.NONE);
        Due.add(x, "g:(b*(c*e))");
        Due.is("three: needed()", x.needed(), 22);
    }
}
