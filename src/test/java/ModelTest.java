import java.util.Random;

/**
 * Runs of calls by chance, always the same ones, on the program and on the model. An argument tells
 * how many runs; without it there are as many as take some seconds.
 */
public final class ModelTest {
    private static final int CALLS = 500;

    private final Random chance;
    private final OnceProver program = new OnceProver();
    private final Model model = new Model();
    private final StringBuilder history = new StringBuilder();
    private final int letters;
    private final int size;
    private int calls = 0;
    private boolean wrong = false;
    private static long proofs = 0;

    private ModelTest(long seed) {
        chance = new Random(seed);
        letters = 1 + chance.nextInt(4);
        size = 2 + chance.nextInt(9);
    }

    public static void main(String[] args) {
        int runs = args.length > 0 ? Integer.parseInt(args[0]) : 150;
        long first = args.length > 1 ? Long.parseLong(args[1]) : 0;
        for (long seed = first; seed < first + runs; seed++) {
            ModelTest test = new ModelTest(seed);
            test.run();
            if (test.wrong) {
                System.out.println("seed " + seed + ": the last calls, the last of them wrong:");
                System.out.println(test.history.substring(Math.max(0, test.history.length() - 3000)));
                System.exit(1);
            }
        }
        System.out.println(runs + " runs are as due, with " + proofs + " codes of first proofs");
    }

    private void run() {
        while (calls < CALLS && !wrong) {
            int kind = chance.nextInt(100);
            if (kind < 30) {
                newText();
            } else if (kind < 36) {
                wildCall();
            } else if (kind < 41) {
                int where = chance.nextInt(2);
                both(chance.nextInt(3) == 0 ? "image" : "restore", where, 0);
            } else if (kind < 45) {
                int what = chance.nextInt(6);
                both("drop", what < 3 ? 0 : what < 5 ? 1 : 2, chance.nextInt(5));
            } else if (kind < 60) {
                trials();
            } else {
                questions();
            }
        }
    }

    private void newText() {
        String text;
        int kind = chance.nextInt(10);
        text = kind < 4 ? goal(size, true) : offer(size / 2 + 1);
        if (kind < 4 && chance.nextInt(3) == 0) {
            text = "(" + text + "*T)";
        }
        if (chance.nextInt(8) == 0) {
            text = broken(text);
        }
        for (int i = 0; i < text.length() && i < 61; i++) {
            both("say", text.charAt(i), 0);
        }
        both(kind < 4 ? "goal" : kind < 8 ? "resource" : "well", 0, 0);
        both("fault", 0, 0);
        if (chance.nextInt(6) != 0) {
            both("wipe", 0, 0);
        }
    }

    private String broken(String text) {
        String signs = "abhi1T!*&+()[]<|~";
        char sign = signs.charAt(chance.nextInt(signs.length()));
        int at = chance.nextInt(text.length() + 1);
        int behind = Math.min(text.length(), at + chance.nextInt(2));
        return text.substring(0, at) + (chance.nextInt(4) == 0 ? "" : sign) + text.substring(behind);
    }

    private String atom() {
        return "" + (char) ('a' + chance.nextInt(letters));
    }

    private String offer(int room) {
        StringBuilder all = new StringBuilder();
        int faces = 1 + (chance.nextInt(3) == 0 ? 1 : 0) + (chance.nextInt(6) == 0 ? 1 : 0);
        for (int f = 0; f < faces; f++) {
            all.append(f == 0 ? "" : "|").append(atom());
            if (chance.nextInt(3) == 0) {
                all.append('<').append(goal(room, false));
            }
        }
        return all.toString();
    }

    private String goal(int room, boolean wide) {
        if (room <= 1) {
            int kind = chance.nextInt(12);
            return kind == 0 ? "1" : kind == 1 ? "T" : atom();
        }
        int kind = chance.nextInt(wide ? 16 : 20);
        int part = 1 + chance.nextInt(room - 1);
        if (kind < 7) {
            return "(" + goal(part, wide) + "*" + goal(room - part, wide) + ")";
        } else if (kind < 9) {
            return "(" + goal(part, wide) + "&" + goal(room - part, wide) + ")";
        } else if (kind < 12) {
            return "(" + goal(part, wide) + "+" + goal(room - part, wide) + ")";
        } else if (kind < 13) {
            return "!" + goal(room / 2, wide);
        } else if (kind < 16) {
            return "[" + offer(room / 3) + "]" + goal(room - 1, wide);
        }
        return atom();
    }

    private void trials() {
        if (chance.nextBoolean()) {
            both("trial", 1, 0);
        } else if (chance.nextInt(4) == 0) {
            both("trial", 0, 0);
        }
        int puts = chance.nextInt(5) == 0 ? chance.nextInt(8) : 0;
        for (int i = 0; i < puts; i++) {
            both("put", number(), 0);
        }
        if (chance.nextInt(10) == 0) {
            int number = 100 + 10 * chance.nextInt(4) + chance.nextInt(2);
            for (int i = 0; i < 13; i++) {
                both("put", number, 0);
            }
        }
        changed();
        for (int what = 0; what <= 2; what++) {
            both("check", what, 0);
        }
    }

    private int number() {
        int kind = chance.nextInt(6);
        int face = chance.nextInt(5) == 0 ? chance.nextInt(10) : 0;
        return kind < 2 ? 10 * chance.nextInt(8) + face : kind < 4 ? 100 + 10 * chance.nextInt(4) + face
                : kind < 5 ? 200 + chance.nextInt(chance.nextBoolean() ? 8 : 260) : 300 + chance.nextInt(2);
    }

    /** Puts the first proof anew, with a number of it changed, left out or put twice. */
    private void changed() {
        int length = model.term(-1);
        if (length <= 0 || length > 20 || chance.nextBoolean()) {
            return;
        }
        int at = chance.nextInt(length);
        int how = chance.nextInt(3);
        both("trial", 0, 0);
        for (int i = 0; i < length; i++) {
            int number = model.term(i);
            if (i != at) {
                both("put", number, 0);
            } else if (how == 0) {
                both("put", number(), 0);
            } else if (how == 1) {
                both("put", number, 0);
                both("put", number, 0);
            }
        }
    }

    private void questions() {
        int all = model.count(0);
        switch (chance.nextInt(8)) {
            case 0:
                both("height", all & chance.nextInt(32), 0);
                break;
            case 1:
                both("height", all, 0);
                break;
            case 2:
                int h = chance.nextInt(11);
                both("left", h, -1);
                both("left", h, chance.nextInt(8));
                break;
            case 3:
                both("ways", all & chance.nextInt(32), chance.nextInt(11));
                both("ways", all, chance.nextInt(11));
                break;
            case 4:
                both("fewest", 0, 0);
                both("needed", 0, 0);
                break;
            case 5:
                terms();
                break;
            case 6:
                both("uses", 0, chance.nextInt(8));
                both("uses", 1, chance.nextInt(4));
                break;
            default:
                for (int what = 0; what <= 7; what++) {
                    both("count", what, 0);
                }
                break;
        }
    }

    private void terms() {
        int length = model.term(-1);
        both("term", -1, 0);
        for (int i = 0; i <= length && i < 20; i++) {
            both("term", i, 0);
        }
        if (length > 0) {
            proofs++;
            both("term", length - 1, 0);
            both("term", length, 0);
        }
    }

    private void wildCall() {
        String[] names = {"say", "drop", "height", "left", "ways", "term", "uses", "put", "trial", "check", "image",
            "restore", "count"};
        both(names[chance.nextInt(names.length)], wild(), wild());
    }

    private int wild() {
        int[] edges = {Integer.MIN_VALUE, -2, -1, 0, 1, 2, 3, 5, 8, 10, 11, 31, 32, 60, 127, 256, 500, Integer.MAX_VALUE};
        return edges[chance.nextInt(edges.length)];
    }

    private void both(String name, int a, int b) {
        if (calls >= CALLS || wrong) {
            return;
        }
        calls++;
        int got = ofProgram(name, a, b);
        int want = ofModel(name, a, b);
        history.append(name).append('(').append(a).append(", ").append(b).append(") answered ").append(got);
        if (got != want) {
            wrong = true;
            history.append(", due is ").append(want);
        }
        history.append('\n');
    }

    private int ofProgram(String name, int a, int b) {
        switch (name) {
            case "say": return program.say(a);
            case "wipe": return program.wipe();
            case "resource": return program.resource();
            case "well": return program.well();
            case "goal": return program.goal();
            case "fault": return program.fault();
            case "drop": return program.drop(a, b);
            case "height": return program.height(a);
            case "left": return program.left(a, b);
            case "ways": return program.ways(a, b);
            case "fewest": return program.fewest();
            case "needed": return program.needed();
            case "term": return program.term(a);
            case "uses": return program.uses(a, b);
            case "put": return program.put(a);
            case "trial": return program.trial(a);
            case "check": return program.check(a);
            case "image": return program.image(a);
            case "restore": return program.restore(a);
            case "count": return program.count(a);
            default: throw new IllegalArgumentException(name);
        }
    }

    private int ofModel(String name, int a, int b) {
        switch (name) {
            case "say": return model.say(a);
            case "wipe": return model.wipe();
            case "resource": return model.resource();
            case "well": return model.well();
            case "goal": return model.goal();
            case "fault": return model.fault();
            case "drop": return model.drop(a, b);
            case "height": return model.height(a);
            case "left": return model.left(a, b);
            case "ways": return model.ways(a, b);
            case "fewest": return model.fewest();
            case "needed": return model.needed();
            case "term": return model.term(a);
            case "uses": return model.uses(a, b);
            case "put": return model.put(a);
            case "trial": return model.trial(a);
            case "check": return model.check(a);
            case "image": return model.image(a);
            case "restore": return model.restore(a);
            case "count": return model.count(a);
            default: throw new IllegalArgumentException(name);
        }
    }
}
