import java.math.BigInteger;
import java.util.ArrayList;
import java.util.Arrays;
import java.util.HashMap;
import java.util.List;
import java.util.Map;
import java.util.TreeSet;

/** What the document says, written down as plainly as can be: slow, and by other means than the program. */
final class Model {
    private static final int UNKNOWN = -1, OUTSIDE = -2, STATE = -3, FULL = -4, NONE = -6, FAULT = -7;
    private static final BigInteger MANY = BigInteger.valueOf(999999999);
    /** Up to so many proofs are written out one by one. */
    private static final int WRITTEN_OUT = 60;

    private static final class Node {
        char sign;
        Node a;
        Node b;
        int loan;
        int id;
    }

    private static final class Face {
        char head;
        Node body;
    }

    private String text = "";
    private int lastFault = NONE;
    private String[] texts = new String[10];
    private final String[][] saved = new String[2][];
    private final List<Integer> trial = new ArrayList<>();

    // What follows from the texts.
    private boolean known = false;
    private Node root;
    private final Face[][] offers = new Face[12][];
    private int loans;
    private int ids;
    private String source;
    private int at;
    private final Map<String, BigInteger> numbers = new HashMap<>();
    private final Map<String, List<Integer>> bests = new HashMap<>();

    int say(int sign) {
        if (sign < 33 || sign > 126) {
            return OUTSIDE;
        }
        if (text.length() == 60) {
            return FULL;
        }
        text += (char) sign;
        return text.length();
    }

    int wipe() {
        int length = text.length();
        text = "";
        return length;
    }

    int resource() {
        return offer(1, 5);
    }

    int well() {
        return offer(6, 4);
    }

    private int offer(int from, int slots) {
        int fault = Grammar.fault(text, true);
        if (fault >= 0) {
            lastFault = fault;
            return FAULT;
        }
        for (int n = 0; n < slots; n++) {
            if (texts[from + n] == null) {
                return settle(from + n) ? n : FULL;
            }
        }
        return FULL;
    }

    int goal() {
        int fault = Grammar.fault(text, false);
        if (fault >= 0) {
            lastFault = fault;
            return FAULT;
        }
        return settle(0) ? nodesOf(0, texts[0]) : FULL;
    }

    private boolean settle(int slot) {
        String[] then = texts.clone();
        then[slot] = text;
        int nodes = 0;
        int brackets = 0;
        for (int i = 0; i < 10; i++) {
            nodes += nodesOf(i, then[i]);
            brackets += bracketsOf(then[i]);
        }
        if (nodes > 60 || brackets > 3) {
            return false;
        }
        texts = then;
        text = "";
        known = false;
        return true;
    }

    /** A letter is a head if it begins an offer or stands behind "[" or "|". */
    private static int nodesOf(int slot, String one) {
        if (one == null) {
            return 0;
        }
        int nodes = 0;
        for (int i = 0; i < one.length(); i++) {
            char sign = one.charAt(i);
            if (sign >= 'a' && sign <= 'h') {
                boolean head = i == 0 ? slot != 0 : one.charAt(i - 1) == '[' || one.charAt(i - 1) == '|';
                nodes += head ? 0 : 1;
            } else if ("1T!*&+[".indexOf(sign) >= 0) {
                nodes++;
            }
        }
        return nodes;
    }

    private static int bracketsOf(String one) {
        return one == null ? 0 : one.length() - one.replace("[", "").length();
    }

    int fault() {
        return lastFault;
    }

    int drop(int kind, int n) {
        if (kind < 0 || kind > 2) {
            return OUTSIDE;
        }
        if (kind == 2) {
            if (texts[0] == null) {
                return STATE;
            }
            texts[0] = null;
            known = false;
            return 0;
        }
        if (n < 0 || n >= (kind == 0 ? 5 : 4) || texts[(kind == 0 ? 1 : 6) + n] == null) {
            return UNKNOWN;
        }
        texts[(kind == 0 ? 1 : 6) + n] = null;
        known = false;
        return Integer.bitCount(kind == 0 ? all() : wells());
    }

    private int all() {
        int set = 0;
        for (int n = 0; n < 5; n++) {
            set += texts[1 + n] == null ? 0 : 1 << n;
        }
        return set;
    }

    private int wells() {
        int set = 0;
        for (int n = 0; n < 4; n++) {
            set += texts[6 + n] == null ? 0 : 1 << n;
        }
        return set;
    }

    private boolean strange(int set) {
        return set < 0 || (set | all()) != all();
    }

    // The proofs.

    private void learn() {
        if (known) {
            return;
        }
        numbers.clear();
        bests.clear();
        loans = 0;
        ids = 0;
        root = null;
        Arrays.fill(offers, null);
        for (int slot = 0; slot < 10; slot++) {
            if (texts[slot] != null) {
                source = texts[slot];
                at = 0;
                if (slot == 0) {
                    root = parseGoal();
                } else {
                    offers[slot < 6 ? slot - 1 : slot + 2] = parseOffer();
                }
            }
        }
        known = true;
    }

    private Node parseGoal() {
        Node node = new Node();
        node.id = ids++;
        node.sign = source.charAt(at++);
        if (node.sign == '!') {
            node.a = parseGoal();
        } else if (node.sign == '(') {
            node.a = parseGoal();
            node.sign = source.charAt(at++);
            node.b = parseGoal();
            at++;
        } else if (node.sign == '[') {
            node.loan = 5 + loans++;
            offers[node.loan] = parseOffer();
            at++;
            node.a = parseGoal();
        }
        return node;
    }

    private Face[] parseOffer() {
        List<Face> faces = new ArrayList<>();
        do {
            Face face = new Face();
            face.head = source.charAt(at++);
            if (at < source.length() && source.charAt(at) == '<') {
                at++;
                face.body = parseGoal();
            }
            faces.add(face);
        } while (at < source.length() && source.charAt(at) == '|' && at++ >= 0);
        return faces.toArray(new Face[0]);
    }

    private interface Alternative {
        void proves(int number, Node a, int setA, Node b, int setB);
    }

    /** Every way to prove a goal: a number or -1, and up to two goals that are left to be proved. */
    private void alternatives(Node node, int set, Alternative each) {
        switch (node.sign) {
            case '1':
                if (set == 0) {
                    each.proves(-1, null, 0, null, 0);
                }
                break;
            case 'T':
                each.proves(-1, null, 0, null, 0);
                break;
            case '!':
                if (set == 0) {
                    each.proves(-1, node.a, 0, null, 0);
                }
                break;
            case '*':
                for (int part = 0; part < 256; part++) {
                    if ((part & set) == part) {
                        each.proves(200 + part, node.a, part, node.b, set - part);
                    }
                }
                break;
            case '&':
                each.proves(-1, node.a, set, node.b, set);
                break;
            case '+':
                each.proves(300, node.a, set, null, 0);
                each.proves(301, node.b, set, null, 0);
                break;
            case '[':
                if ((set >> node.loan) % 2 == 0) {
                    each.proves(-1, node.a, set + (1 << node.loan), null, 0);
                }
                break;
            default:
                faces(node.sign, set, each);
                break;
        }
    }

    private void faces(char head, int set, Alternative each) {
        for (int offer = 0; offer < 12; offer++) {
            boolean there = offers[offer] != null && (offer > 7 || (set >> offer) % 2 == 1);
            for (int f = 0; there && f < offers[offer].length; f++) {
                Face face = offers[offer][f];
                int rest = offer > 7 ? set : set - (1 << offer);
                int number = offer > 7 ? 100 + 10 * (offer - 8) + f : 10 * offer + f;
                if (face.head == head && (face.body != null || rest == 0)) {
                    each.proves(number, face.body, rest, null, 0);
                }
            }
        }
    }

    private boolean can(Node node, int set, int h) {
        return ways(node, set, h).signum() > 0;
    }

    private BigInteger ways(Node node, int set, int h) {
        if (node == null) {
            return BigInteger.ONE;
        }
        if (h == 0) {
            return BigInteger.ZERO;
        }
        String key = node.id + " " + set + " " + h;
        BigInteger got = numbers.get(key);
        if (got == null) {
            BigInteger[] sum = {BigInteger.ZERO};
            alternatives(node, set, (number, a, setA, b, setB) -> {
                BigInteger first = ways(a, setA, h - 1);
                if (first.signum() > 0) {
                    sum[0] = sum[0].add(first.multiply(ways(b, setB, h - 1)));
                }
            });
            got = sum[0];
            numbers.put(key, got);
        }
        return got;
    }

    /** The smallest code by comparing whole codes; null if there is none. */
    private List<Integer> best(Node node, int set, int h) {
        if (node == null) {
            return List.of();
        }
        if (!can(node, set, h)) {
            return null;
        }
        String key = node.id + " " + set + " " + h;
        if (!bests.containsKey(key)) {
            List<List<Integer>> found = new ArrayList<>();
            alternatives(node, set, (number, a, setA, b, setB) -> {
                List<Integer> first = best(a, setA, h - 1);
                List<Integer> second = first == null ? null : best(b, setB, h - 1);
                if (second != null) {
                    List<Integer> code = new ArrayList<>();
                    if (number >= 0) {
                        code.add(number);
                    }
                    code.addAll(first);
                    code.addAll(second);
                    found.add(code);
                }
            });
            found.sort(Model::compare);
            bests.put(key, found.get(0));
        }
        return bests.get(key);
    }

    private static int compare(List<Integer> one, List<Integer> other) {
        for (int i = 0; i < one.size() && i < other.size(); i++) {
            if (!one.get(i).equals(other.get(i))) {
                return one.get(i) - other.get(i);
            }
        }
        return one.size() - other.size();
    }

    /** All codes, one by one. */
    private List<List<Integer>> codes(Node node, int set, int h) {
        List<List<Integer>> all = new ArrayList<>();
        if (node == null) {
            all.add(List.of());
        } else if (can(node, set, h)) {
            alternatives(node, set, (number, a, setA, b, setB) -> {
                if (h > 0 && ways(a, setA, h - 1).multiply(ways(b, setB, h - 1)).signum() > 0) {
                    for (List<Integer> first : codes(a, setA, h - 1)) {
                        for (List<Integer> second : codes(b, setB, h - 1)) {
                            List<Integer> code = new ArrayList<>();
                            if (number >= 0) {
                                code.add(number);
                            }
                            code.addAll(first);
                            code.addAll(second);
                            all.add(code);
                        }
                    }
                }
            });
        }
        return all;
    }

    private int least(int set) {
        learn();
        for (int h = 0; h <= 10; h++) {
            if (can(root, set, h)) {
                return h;
            }
        }
        return NONE;
    }

    int height(int set) {
        return strange(set) ? UNKNOWN : texts[0] == null ? STATE : least(set);
    }

    int left(int h, int i) {
        if (h < 0 || h > 10 || i < -1) {
            return OUTSIDE;
        }
        if (texts[0] == null) {
            return STATE;
        }
        TreeSet<Integer> sets = new TreeSet<>();
        for (int set = 0; set < 32; set++) {
            if (!strange(set) && least(set) >= 0 && least(set) <= h) {
                sets.add(all() - set);
            }
        }
        return i == -1 ? sets.size() : i < sets.size() ? new ArrayList<>(sets).get(i) : NONE;
    }

    int ways(int set, int h) {
        if (strange(set)) {
            return UNKNOWN;
        }
        if (h < 0 || h > 10) {
            return OUTSIDE;
        }
        if (texts[0] == null) {
            return STATE;
        }
        learn();
        BigInteger number = ways(root, set, h);
        if (number.compareTo(BigInteger.valueOf(WRITTEN_OUT)) <= 0) {
            TreeSet<List<Integer>> different = new TreeSet<>(Model::compare);
            different.addAll(codes(root, set, h));
            return different.size();
        }
        return number.min(MANY).intValue();
    }

    int fewest() {
        if (texts[0] == null) {
            return STATE;
        }
        for (int size = 0; size <= 5; size++) {
            for (int set = 0; set < 32; set++) {
                if (!strange(set) && Integer.bitCount(set) == size && least(set) != NONE) {
                    return set;
                }
            }
        }
        return NONE;
    }

    int needed() {
        if (texts[0] == null) {
            return STATE;
        }
        int result = 0;
        for (int n = 0; n < 5; n++) {
            if ((all() >> n) % 2 == 1 && least(all() - (1 << n)) == NONE) {
                result += 1 << n;
            }
        }
        return result;
    }

    private List<Integer> firstProof() {
        int h = least(all());
        if (h == NONE) {
            return null;
        }
        List<Integer> best = best(root, all(), h);
        if (ways(root, all(), h).compareTo(BigInteger.valueOf(WRITTEN_OUT)) <= 0) {
            List<List<Integer>> codes = codes(root, all(), h);
            codes.sort(Model::compare);
            if (!codes.get(0).equals(best)) {
                throw new IllegalStateException("the model is at odds with itself");
            }
        }
        return best;
    }

    int term(int i) {
        if (i < -1) {
            return OUTSIDE;
        }
        if (texts[0] == null) {
            return STATE;
        }
        List<Integer> code = firstProof();
        if (code == null) {
            return NONE;
        }
        return i == -1 ? code.size() : i < code.size() ? code.get(i) : NONE;
    }

    int uses(int kind, int n) {
        if (kind < 0 || kind > 1) {
            return OUTSIDE;
        }
        if (n < 0 || n > (kind == 0 ? 7 : 3)) {
            return UNKNOWN;
        }
        if (texts[0] == null) {
            return STATE;
        }
        List<Integer> code = firstProof();
        int uses = 0;
        for (int number : code == null ? List.<Integer>of() : code) {
            uses += number / 10 == (kind == 0 ? n : 10 + n) ? 1 : 0;
        }
        return uses;
    }

    int put(int number) {
        if (number < 0 || number > 499) {
            return OUTSIDE;
        }
        if (trial.size() == 60) {
            return FULL;
        }
        trial.add(number);
        return trial.size();
    }

    int trial(int n) {
        if (n < 0 || n > 1) {
            return OUTSIDE;
        }
        if (n == 1 && texts[0] == null) {
            return STATE;
        }
        trial.clear();
        List<Integer> code = n == 1 ? firstProof() : null;
        for (int i = 0; code != null && i < code.size() && i < 60; i++) {
            trial.add(code.get(i));
        }
        return trial.size();
    }

    // The check, by a list of goals that are still to be gone through.

    private record Due(Node node, int set, int depth) {
    }

    int check(int what) {
        if (what < 0 || what > 2) {
            return OUTSIDE;
        }
        if (texts[0] == null) {
            return STATE;
        }
        learn();
        int[] results = new int[3];
        ArrayList<Due> due = new ArrayList<>();
        due.add(new Due(root, all(), 1));
        while (!due.isEmpty() && results[0] == 0) {
            results[0] = checkNext(due, results);
        }
        if (results[0] == 0 && results[1] < trial.size()) {
            results[0] = 6;
        }
        return results[what];
    }

    private int checkNext(ArrayList<Due> due, int[] results) {
        Due now = due.remove(0);
        if (now.depth > 12) {
            return 1;
        }
        results[2] = Math.max(results[2], now.depth);
        char sign = now.node.sign;
        boolean takes = "1T!&[".indexOf(sign) < 0;
        if (takes && results[1] == trial.size()) {
            return 2;
        }
        int number = takes ? trial.get(results[1]) : -1;
        if ((sign == '1' || sign == '!') && now.set != 0) {
            return 4;
        }
        if (sign == '[' && (now.set >> now.node.loan) % 2 == 1) {
            return 5;
        }
        List<Due> then = new ArrayList<>();
        boolean[] state = {false, false};
        if (takes && sign >= 'a') {
            checkAtom(now, number, then, state);
        } else {
            alternatives(now.node, now.set, (other, a, setA, b, setB) -> {
                if (other == number) {
                    state[0] = true;
                    if (a != null) {
                        then.add(new Due(a, setA, now.depth + 1));
                    }
                    if (b != null) {
                        then.add(new Due(b, setB, now.depth + 1));
                    }
                }
            });
        }
        if (!state[0]) {
            return 3;
        }
        results[1] += takes ? 1 : 0;
        due.addAll(0, then);
        return state[1] ? 4 : 0;
    }

    private void checkAtom(Due now, int number, List<Due> then, boolean[] state) {
        for (int offer = 0; offer < 12; offer++) {
            boolean there = offers[offer] != null && (offer > 7 || (now.set >> offer) % 2 == 1);
            for (int f = 0; there && f < offers[offer].length; f++) {
                int own = offer > 7 ? 100 + 10 * (offer - 8) + f : 10 * offer + f;
                int rest = offer > 7 ? now.set : now.set - (1 << offer);
                Face face = offers[offer][f];
                if (own == number && face.head == now.node.sign) {
                    state[0] = true;
                    state[1] = face.body == null && rest != 0;
                    if (face.body != null) {
                        then.add(new Due(face.body, rest, now.depth + 1));
                    }
                }
            }
        }
    }

    int image(int k) {
        if (k < 0 || k > 1) {
            return OUTSIDE;
        }
        saved[k] = texts.clone();
        return 1;
    }

    int restore(int k) {
        if (k < 0 || k > 1) {
            return OUTSIDE;
        }
        if (saved[k] == null) {
            return STATE;
        }
        texts = saved[k].clone();
        known = false;
        return 1;
    }

    int count(int what) {
        int nodes = 0;
        int brackets = 0;
        for (int i = 0; i < 10; i++) {
            nodes += nodesOf(i, texts[i]);
            brackets += bracketsOf(texts[i]);
        }
        int places = (saved[0] == null ? 0 : 1) + (saved[1] == null ? 0 : 2);
        int[] counts = {all(), wells(), texts[0] == null ? 0 : 1, nodes, brackets, text.length(), trial.size(), places};
        return what < 0 || what > 7 ? OUTSIDE : counts[what];
    }
}
