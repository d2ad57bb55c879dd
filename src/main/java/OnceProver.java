/**
 * A prover for a fragment of linear logic: goals are proved from resources, each of which has to be
 * used exactly once, and from wells, which can be used as often as needed.
 */
public final class OnceProver {
    public static final int UNKNOWN = -1, OUTSIDE = -2, STATE = -3, FULL = -4, NONE = -6, FAULT = -7;
    public static final int MANY = 999999999;

    private static final int FIRST_SIGN = 33, LAST_SIGN = 126;
    private static final int MAX_SIGNS = 60, MAX_NODES = 60, MAX_LOANS = 3;
    private static final int MAX_HEIGHT = 10, MAX_DEPTH = 12;
    private static final int MAX_TRIAL = 60, LAST_NUMBER = 499;

    // The slots stand in the order in which the loans of their texts are numbered.
    private static final int RESOURCES = 5, WELLS = 4;
    private static final int GOAL_SLOT = 0, RESOURCE_SLOT = 1, WELL_SLOT = 6, SLOTS = 10;

    // Offers 0 to 4 are the resources, 5 to 7 the loans, 8 to 11 the wells.
    private static final int FIRST_LOAN = 5, SINGLES = 8, OFFERS = 12, FACES = 3;
    private static final int SETS = 1 << SINGLES;

    private static final int WELL_CODE = 100, SPLIT_CODE = 200, FIRST_CODE = 300, SECOND_CODE = 301;
    private static final int NO_NODE = -1, ABSENT = -1;
    private static final int PLACES = 2;

    private final Text text;
    private final Stock stock;
    private final Stock[] saved;
    private final Plan sketch;
    private final Plan plan;
    private final Reach reach;
    private final Ways tallies;
    private final FirstProof firstProof;
    private final Trial attempt;
    private final Judge judge;
    private int lastFault;
    private boolean stale;

    public OnceProver() {
        text = new Text();
        stock = new Stock();
        saved = new Stock[PLACES];
        sketch = new Plan();
        plan = new Plan();
        reach = new Reach(plan);
        tallies = new Ways(plan, reach);
        firstProof = new FirstProof(plan, reach);
        attempt = new Trial();
        judge = new Judge(plan, attempt);
        lastFault = NONE;
        stale = true;
    }

    public int say(int sign) {
        if (sign < FIRST_SIGN || sign > LAST_SIGN) {
            return OUTSIDE;
        }
        return text.append((char) sign) ? text.length() : FULL;
    }

    public int wipe() {
        int length = text.length();
        text.clear();
        return length;
    }

    public int resource() {
        return takeOffer(RESOURCE_SLOT, RESOURCES);
    }

    public int well() {
        return takeOffer(WELL_SLOT, WELLS);
    }

    public int goal() {
        Item item = readText(false);
        if (item == null) {
            return FAULT;
        }
        if (!stock.hasRoom(GOAL_SLOT, item)) {
            return FULL;
        }
        settle(GOAL_SLOT, item);
        return item.nodes();
    }

    public int fault() {
        return lastFault;
    }

    public int drop(int kind, int n) {
        switch (kind) {
            case 0:
                return dropNumbered(RESOURCE_SLOT, RESOURCES, n);
            case 1:
                return dropNumbered(WELL_SLOT, WELLS, n);
            case 2:
                return dropGoal();
            default:
                return OUTSIDE;
        }
    }

    public int height(int set) {
        if (!isSetOfResources(set)) {
            return UNKNOWN;
        }
        if (!hasGoal()) {
            return STATE;
        }
        prepare();
        return reach.leastHeight(plan.root(), set);
    }

    public int left(int h, int i) {
        if (h < 0 || h > MAX_HEIGHT || i < -1) {
            return OUTSIDE;
        }
        if (!hasGoal()) {
            return STATE;
        }
        prepare();
        int all = allResources();
        int found = 0;
        for (int rest = 0; rest <= all; rest++) {
            if ((rest & ~all) == 0 && reach.proves(plan.root(), all & ~rest, h)) {
                if (found == i) {
                    return rest;
                }
                found++;
            }
        }
        return i == -1 ? found : NONE;
    }

    public int ways(int set, int h) {
        if (!isSetOfResources(set)) {
            return UNKNOWN;
        }
        if (h < 0 || h > MAX_HEIGHT) {
            return OUTSIDE;
        }
        if (!hasGoal()) {
            return STATE;
        }
        prepare();
        return tallies.number(set, h);
    }

    public int fewest() {
        if (!hasGoal()) {
            return STATE;
        }
        prepare();
        int all = allResources();
        int best = NONE;
        int size = RESOURCES + 1;
        for (int set = 0; set <= all; set++) {
            if ((set & ~all) == 0 && Integer.bitCount(set) < size && isProvable(set)) {
                best = set;
                size = Integer.bitCount(set);
            }
        }
        return best;
    }

    public int needed() {
        if (!hasGoal()) {
            return STATE;
        }
        prepare();
        int all = allResources();
        int result = 0;
        for (int n = 0; n < RESOURCES; n++) {
            int bit = 1 << n;
            if ((all & bit) != 0 && !isProvable(all ^ bit)) {
                result |= bit;
            }
        }
        return result;
    }

    public int term(int i) {
        if (i < -1) {
            return OUTSIDE;
        }
        if (!hasGoal()) {
            return STATE;
        }
        prepare();
        firstProof.find(allResources());
        if (!firstProof.exists()) {
            return NONE;
        }
        if (i == -1) {
            return firstProof.length();
        }
        return i < firstProof.length() ? firstProof.at(i) : NONE;
    }

    public int uses(int kind, int n) {
        if (kind != 0 && kind != 1) {
            return OUTSIDE;
        }
        if (n < 0 || n >= (kind == 0 ? SINGLES : WELLS)) {
            return UNKNOWN;
        }
        if (!hasGoal()) {
            return STATE;
        }
        prepare();
        firstProof.find(allResources());
        return firstProof.usesOf(kind == 0 ? n : SINGLES + n);
    }

    public int put(int number) {
        if (number < 0 || number > LAST_NUMBER) {
            return OUTSIDE;
        }
        return attempt.append(number) ? attempt.length() : FULL;
    }

    public int trial(int n) {
        if (n != 0 && n != 1) {
            return OUTSIDE;
        }
        if (n == 1 && !hasGoal()) {
            return STATE;
        }
        attempt.clear();
        if (n == 1) {
            prepare();
            firstProof.find(allResources());
            for (int i = 0; i < firstProof.length() && i < MAX_TRIAL; i++) {
                attempt.append(firstProof.at(i));
            }
        }
        return attempt.length();
    }

    public int check(int what) {
        if (what < 0 || what > 2) {
            return OUTSIDE;
        }
        if (!hasGoal()) {
            return STATE;
        }
        prepare();
        judge.judge(allResources());
        if (what == 0) {
            return judge.verdict();
        }
        return what == 1 ? judge.used() : judge.deepest();
    }

    public int image(int k) {
        if (k < 0 || k >= PLACES) {
            return OUTSIDE;
        }
        Stock place = saved[k];
        if (place == null) {
            place = new Stock();
            saved[k] = place;
        }
        place.copyFrom(stock);
        return 1;
    }

    public int restore(int k) {
        if (k < 0 || k >= PLACES) {
            return OUTSIDE;
        }
        Stock place = saved[k];
        if (place == null) {
            return STATE;
        }
        stock.copyFrom(place);
        stale = true;
        return 1;
    }

    public int count(int what) {
        switch (what) {
            case 0:
                return allResources();
            case 1:
                return stock.present(WELL_SLOT, WELLS);
            case 2:
                return hasGoal() ? 1 : 0;
            case 3:
                return stock.nodes();
            case 4:
                return stock.loans();
            case 5:
                return text.length();
            case 6:
                return attempt.length();
            case 7:
                return savedPlaces();
            default:
                return OUTSIDE;
        }
    }

    /** Reads the text as an offer, or as a goal; null if it has a fault, which is then kept. */
    private Item readText(boolean asOffer) {
        char[] signs = text.copy();
        sketch.clear();
        Reader reader = new Reader(signs, sketch);
        if (asOffer) {
            reader.readWholeOffer(0);
        } else {
            reader.readWholeGoal();
        }
        if (reader.failed()) {
            lastFault = reader.faultPlace();
            return null;
        }
        return new Item(signs, sketch.nodes(), sketch.loans());
    }

    private int takeOffer(int firstSlot, int slots) {
        Item item = readText(true);
        if (item == null) {
            return FAULT;
        }
        int slot = stock.firstFree(firstSlot, slots);
        if (slot == ABSENT || !stock.hasRoom(slot, item)) {
            return FULL;
        }
        settle(slot, item);
        return slot - firstSlot;
    }

    private void settle(int slot, Item item) {
        stock.set(slot, item);
        text.clear();
        stale = true;
    }

    private int dropNumbered(int firstSlot, int slots, int n) {
        if (n < 0 || n >= slots || stock.at(firstSlot + n) == null) {
            return UNKNOWN;
        }
        stock.set(firstSlot + n, null);
        stale = true;
        return Integer.bitCount(stock.present(firstSlot, slots));
    }

    private int dropGoal() {
        if (!hasGoal()) {
            return STATE;
        }
        stock.set(GOAL_SLOT, null);
        stale = true;
        return 0;
    }

    private boolean hasGoal() {
        return stock.at(GOAL_SLOT) != null;
    }

    private int allResources() {
        return stock.present(RESOURCE_SLOT, RESOURCES);
    }

    private boolean isSetOfResources(int set) {
        return set >= 0 && (set & ~allResources()) == 0;
    }

    private boolean isProvable(int set) {
        return reach.proves(plan.root(), set, MAX_HEIGHT);
    }

    private int savedPlaces() {
        int places = 0;
        for (int k = 0; k < PLACES; k++) {
            if (saved[k] != null) {
                places |= 1 << k;
            }
        }
        return places;
    }

    /** Works out anew what follows from the stock, if the stock has changed since. */
    private void prepare() {
        if (stale) {
            plan.build(stock);
            reach.compute();
            tallies.forget();
            firstProof.forget();
            stale = false;
        }
    }

    private static int partsOf(int set) {
        return 1 << Integer.bitCount(set & SETS - 1);
    }

    /** The next greater part of a set: the borrow runs through the bits that the set does not have. */
    private static int nextPart(int part, int set) {
        return part - set & set;
    }

    /** The text that is being written. */
    private static final class Text {
        private final char[] signs = new char[MAX_SIGNS];
        private int length = 0;

        boolean append(char sign) {
            if (length < 0 || length >= signs.length) {
                return false;
            }
            signs[length] = sign;
            length++;
            return true;
        }

        int length() {
            return length;
        }

        char[] copy() {
            char[] copy = new char[Math.max(0, Math.min(length, signs.length))];
            for (int i = 0; i < copy.length && i < signs.length; i++) {
                copy[i] = signs[i];
            }
            return copy;
        }

        void clear() {
            length = 0;
        }
    }

    /** A text without a fault: a resource, a well or a goal. It never changes, so images share it. */
    private static final class Item {
        private final char[] signs;
        private final int nodes;
        private final int loans;

        Item(char[] signs, int nodes, int loans) {
            this.signs = signs;
            this.nodes = nodes;
            this.loans = loans;
        }

        char[] signs() {
            return signs;
        }

        int nodes() {
            return nodes;
        }

        int loans() {
            return loans;
        }
    }

    /** The goal, the resources and the wells, each in its slot; a slot with null is free. */
    private static final class Stock {
        private final Item[] items = new Item[SLOTS];

        Item at(int slot) {
            return slot >= 0 && slot < SLOTS ? items[slot] : null;
        }

        void set(int slot, Item item) {
            if (slot >= 0 && slot < SLOTS) {
                items[slot] = item;
            }
        }

        void copyFrom(Stock other) {
            for (int slot = 0; slot < SLOTS; slot++) {
                items[slot] = other.at(slot);
            }
        }

        int firstFree(int firstSlot, int slots) {
            for (int slot = firstSlot; slot < firstSlot + slots; slot++) {
                if (at(slot) == null) {
                    return slot;
                }
            }
            return ABSENT;
        }

        /** The set of the numbers whose slots are taken, counted from the first slot. */
        int present(int firstSlot, int slots) {
            int set = 0;
            for (int n = 0; n < slots; n++) {
                if (at(firstSlot + n) != null) {
                    set |= 1 << n;
                }
            }
            return set;
        }

        int nodes() {
            int sum = 0;
            for (Item item : items) {
                sum += item == null ? 0 : item.nodes();
            }
            return sum;
        }

        int loans() {
            int sum = 0;
            for (Item item : items) {
                sum += item == null ? 0 : item.loans();
            }
            return sum;
        }

        /** Whether the limits hold with the item in this slot, instead of what is there. */
        boolean hasRoom(int slot, Item item) {
            Item old = at(slot);
            int oldNodes = old == null ? 0 : old.nodes();
            int oldLoans = old == null ? 0 : old.loans();
            return nodes() - oldNodes + item.nodes() <= MAX_NODES
                    && loans() - oldLoans + item.loans() <= MAX_LOANS;
        }
    }

    /**
     * The nodes and the offers of all texts. The kind of a node is the sign that makes it: its letter
     * for an atom. The second part of a node [ is the number of its loan.
     */
    private static final class Plan {
        private final char[] kinds = new char[MAX_NODES];
        private final int[] firsts = new int[MAX_NODES];
        private final int[] seconds = new int[MAX_NODES];
        private final char[] heads = new char[OFFERS * FACES];
        private final int[] bodies = new int[OFFERS * FACES];
        private int nodes = 0;
        private int loans = 0;
        private int root = NO_NODE;

        void clear() {
            nodes = 0;
            loans = 0;
            root = NO_NODE;
            for (int i = 0; i < heads.length && i < bodies.length; i++) {
                heads[i] = 0;
                bodies[i] = NO_NODE;
            }
        }

        /** The slots are gone through in their order, so that the loans get their numbers. */
        void build(Stock stock) {
            clear();
            for (int slot = 0; slot < SLOTS; slot++) {
                Item item = stock.at(slot);
                if (item == null) {
                    continue;
                }
                Reader reader = new Reader(item.signs(), this);
                if (slot == GOAL_SLOT) {
                    root = reader.readWholeGoal();
                } else if (slot < WELL_SLOT) {
                    reader.readWholeOffer(slot - RESOURCE_SLOT);
                } else {
                    reader.readWholeOffer(SINGLES + slot - WELL_SLOT);
                }
            }
        }

        int addNode(char kind, int first, int second) {
            if (nodes < 0 || nodes >= MAX_NODES) {
                return NO_NODE;
            }
            int node = nodes;
            kinds[node] = kind;
            firsts[node] = first;
            seconds[node] = second;
            nodes++;
            return node;
        }

        /** The number of a new loan; a text with too many of them is counted, but never kept. */
        int addLoan() {
            int loan = FIRST_LOAN + loans;
            loans++;
            return loan < SINGLES ? loan : ABSENT;
        }

        void setFace(int offer, int face, char head, int body) {
            if (isFace(offer, face)) {
                heads[offer * FACES + face] = head;
                bodies[offer * FACES + face] = body;
            }
        }

        int nodes() {
            return nodes;
        }

        int loans() {
            return loans;
        }

        int root() {
            return root;
        }

        char kind(int node) {
            return isNode(node) ? kinds[node] : 0;
        }

        int first(int node) {
            return isNode(node) ? firsts[node] : NO_NODE;
        }

        int second(int node) {
            return isNode(node) ? seconds[node] : NO_NODE;
        }

        /** The loan of a node [ as a set. */
        int loanBit(int node) {
            int loan = second(node);
            return loan >= FIRST_LOAN && loan < SINGLES ? 1 << loan : 0;
        }

        boolean hasHead(int offer, int face, char head) {
            return isFace(offer, face) && head != 0 && heads[offer * FACES + face] == head;
        }

        int body(int offer, int face) {
            return isFace(offer, face) ? bodies[offer * FACES + face] : NO_NODE;
        }

        /** The set of the single-use offers that are there. */
        int singles() {
            int set = 0;
            for (int offer = 0; offer < SINGLES; offer++) {
                if (heads[offer * FACES] != 0) {
                    set |= 1 << offer;
                }
            }
            return set;
        }

        /** What stays of a set when an offer is used; ABSENT if it has to be in the set, but is not. */
        static int afterUse(int offer, int set) {
            if (offer >= SINGLES) {
                return set;
            }
            int bit = 1 << offer;
            return (set & bit) != 0 ? set ^ bit : ABSENT;
        }

        private static boolean isFace(int offer, int face) {
            return offer >= 0 && offer < OFFERS && face >= 0 && face < FACES;
        }

        private boolean isNode(int node) {
            return node >= 0 && node < nodes && node < MAX_NODES;
        }
    }

    /** Reads one text by the grammar, and lays its nodes and offers into a plan. */
    private static final class Reader {
        private static final char END = 0;

        private final char[] signs;
        private final Plan plan;
        private int place = 0;
        private int fault = NONE;

        Reader(char[] signs, Plan plan) {
            this.signs = signs;
            this.plan = plan;
        }

        int readWholeGoal() {
            int node = readGoal(1);
            refuseMore();
            return node;
        }

        void readWholeOffer(int offer) {
            readOffer(offer, 1);
            refuseMore();
        }

        boolean failed() {
            return fault != NONE;
        }

        int faultPlace() {
            return fault;
        }

        private int readGoal(int depth) {
            char sign = next();
            if (depth > MAX_SIGNS) {
                return refuse();
            }
            if (isAtom(sign)) {
                place++;
                return plan.addNode(sign, NO_NODE, NO_NODE);
            }
            switch (sign) {
                case '1':
                case 'T':
                    place++;
                    return plan.addNode(sign, NO_NODE, NO_NODE);
                case '!':
                    place++;
                    return plan.addNode(sign, readGoal(depth + 1), NO_NODE);
                case '(':
                    return readPair(depth);
                case '[':
                    return readLoan(depth);
                default:
                    return refuse();
            }
        }

        private int readPair(int depth) {
            expect('(');
            int first = readGoal(depth + 1);
            char sign = next();
            if (sign != '*' && sign != '&' && sign != '+') {
                return refuse();
            }
            place++;
            int second = readGoal(depth + 1);
            expect(')');
            return plan.addNode(sign, first, second);
        }

        private int readLoan(int depth) {
            expect('[');
            int loan = plan.addLoan();
            readOffer(loan, depth);
            expect(']');
            return plan.addNode('[', readGoal(depth + 1), loan);
        }

        private void readOffer(int offer, int depth) {
            readFace(offer, 0, depth);
            for (int face = 1; face < FACES && next() == '|'; face++) {
                place++;
                readFace(offer, face, depth);
            }
        }

        private void readFace(int offer, int face, int depth) {
            char head = next();
            if (!isAtom(head)) {
                refuse();
                return;
            }
            place++;
            int body = NO_NODE;
            if (next() == '<') {
                place++;
                body = readGoal(depth + 1);
            }
            plan.setFace(offer, face, head, body);
        }

        /** The sign at the place; END behind the text, and once there is a fault. */
        private char next() {
            return fault == NONE && place >= 0 && place < signs.length ? signs[place] : END;
        }

        private void expect(char sign) {
            if (next() == sign) {
                place++;
            } else {
                refuse();
            }
        }

        private void refuseMore() {
            if (place < signs.length) {
                refuse();
            }
        }

        /** Keeps the first fault alone. */
        private int refuse() {
            if (fault == NONE) {
                fault = place;
            }
            return NO_NODE;
        }

        private static boolean isAtom(char sign) {
            return sign >= 'a' && sign <= 'h';
        }
    }

    /**
     * From which sets each node can be proved within each height. For each node and height there is a
     * row of bits, one for each set, so that all sets are worked out at once.
     */
    private static final class Reach {
        private static final int WORDS = 4, WORD_BITS = 6, WORD_MASK = 63;

        private final Plan plan;
        private final long[] bits = new long[(MAX_HEIGHT + 1) * MAX_NODES * WORDS];
        private final long[] allSets = new long[WORDS];
        // For each of the 64 sets of the lowest six offers: which of them have nothing in common with it.
        private final long[] apart = new long[WORD_MASK + 1];
        private int top = 0;

        Reach(Plan plan) {
            this.plan = plan;
            for (int set = 0; set < apart.length; set++) {
                for (int other = 0; other <= WORD_MASK; other++) {
                    if ((set & other) == 0) {
                        apart[set] |= 1L << other;
                    }
                }
            }
        }

        /** Once a height adds nothing, no greater one does: the rows end there, with the top. */
        void compute() {
            findAllSets();
            boolean grown = true;
            top = 0;
            for (int height = 1; height <= MAX_HEIGHT && grown; height++) {
                grown = false;
                for (int node = 0; node < plan.nodes(); node++) {
                    fillRow(node, height);
                    grown = grown || hasGrown(node, height);
                }
                top = height;
            }
        }

        boolean proves(int node, int set, int height) {
            if (set < 0 || set >= SETS || height < 0) {
                return false;
            }
            return has(rowOf(node, Math.min(height, top)), set);
        }

        /** NONE if the node cannot be proved from the set. */
        int leastHeight(int node, int set) {
            for (int height = 1; height <= MAX_HEIGHT; height++) {
                if (proves(node, set, height)) {
                    return height;
                }
            }
            return NONE;
        }

        /** The sets of single-use offers that are all there: what T is proved from. */
        private void findAllSets() {
            int singles = plan.singles();
            for (int word = 0; word < WORDS; word++) {
                allSets[word] = 0L;
                for (int low = 0; low <= WORD_MASK; low++) {
                    if (((word << WORD_BITS | low) & ~singles) == 0) {
                        allSets[word] |= 1L << low;
                    }
                }
            }
        }

        private void fillRow(int node, int height) {
            int to = rowOf(node, height);
            int first = rowOf(plan.first(node), height - 1);
            int second = rowOf(plan.second(node), height - 1);
            clearRow(to);
            char kind = plan.kind(node);
            switch (kind) {
                case '1':
                    add(to, 0);
                    break;
                case 'T':
                    addAllSets(to);
                    break;
                case '!':
                    if (has(first, 0)) {
                        add(to, 0);
                    }
                    break;
                case '*':
                    addUnions(to, first, second);
                    break;
                case '&':
                    addShared(to, first, second);
                    break;
                case '+':
                    addMoved(to, first, 0);
                    addMoved(to, second, 0);
                    break;
                case '[':
                    addReduced(to, first, plan.loanBit(node));
                    break;
                default:
                    addAtom(to, kind, height);
                    break;
            }
        }

        private void addAtom(int to, char head, int height) {
            for (int offer = 0; offer < OFFERS; offer++) {
                int own = offer < SINGLES ? 1 << offer : 0;
                for (int face = 0; face < FACES; face++) {
                    if (!plan.hasHead(offer, face, head)) {
                        continue;
                    }
                    int body = plan.body(offer, face);
                    if (body == NO_NODE) {
                        add(to, own);
                    } else {
                        addMoved(to, rowOf(body, height - 1), own);
                    }
                }
            }
        }

        /** The unions of a set of the one row and a set of the other that have nothing in common. */
        private void addUnions(int to, int first, int second) {
            for (int word = 0; word < WORDS; word++) {
                long sets = wordAt(first, word);
                for (int bit = 0; bit <= WORD_MASK && sets != 0L; bit++) {
                    if ((sets & 1L) != 0) {
                        addMoved(to, second, word << WORD_BITS | bit);
                    }
                    sets >>>= 1;
                }
            }
        }

        /** The sets of a row that have nothing of the added set, together with it. */
        private void addMoved(int to, int from, int added) {
            int low = added & WORD_MASK;
            int high = added >> WORD_BITS;
            long free = apart[low];
            for (int word = 0; word < WORDS; word++) {
                if ((word & high) == 0) {
                    orWord(to, word | high, (wordAt(from, word) & free) << low);
                }
            }
        }

        /** The sets of a row that have all of the removed set, without it. */
        private void addReduced(int to, int from, int removed) {
            int low = removed & WORD_MASK;
            int high = removed >> WORD_BITS;
            long free = apart[low];
            for (int word = 0; word < WORDS; word++) {
                if ((word & high) == 0) {
                    orWord(to, word, (wordAt(from, word | high) >>> low) & free);
                }
            }
        }

        private void addShared(int to, int first, int second) {
            for (int word = 0; word < WORDS; word++) {
                orWord(to, word, wordAt(first, word) & wordAt(second, word));
            }
        }

        private void addAllSets(int to) {
            for (int word = 0; word < WORDS; word++) {
                orWord(to, word, allSets[word]);
            }
        }

        private void add(int to, int set) {
            orWord(to, set >> WORD_BITS, 1L << (set & WORD_MASK));
        }

        private boolean has(int row, int set) {
            return (wordAt(row, set >> WORD_BITS) >>> (set & WORD_MASK) & 1L) != 0;
        }

        private boolean hasGrown(int node, int height) {
            int row = rowOf(node, height);
            int before = rowOf(node, height - 1);
            for (int word = 0; word < WORDS; word++) {
                if (wordAt(row, word) != wordAt(before, word)) {
                    return true;
                }
            }
            return false;
        }

        private void clearRow(int row) {
            for (int word = 0; word < WORDS; word++) {
                if (row >= 0 && row + word < bits.length) {
                    bits[row + word] = 0L;
                }
            }
        }

        private long wordAt(int row, int word) {
            return row >= 0 && word >= 0 && row + word < bits.length ? bits[row + word] : 0L;
        }

        private void orWord(int row, int word, long sets) {
            if (row >= 0 && word >= 0 && row + word < bits.length) {
                bits[row + word] |= sets;
            }
        }

        /** Where the row begins. The rows of height 0 are never written: nothing can be proved there. */
        private static int rowOf(int node, int height) {
            return node >= 0 && node < MAX_NODES ? (height * MAX_NODES + node) * WORDS : ABSENT;
        }
    }

    /**
     * How many proofs there are. What has been counted is kept with a stamp in its upper half, so that
     * nothing has to be cleared when the plan changes: what bears an older stamp is not known.
     */
    private static final class Ways {
        private static final int STAMP_SHIFT = 32;
        private static final long COUNT_MASK = (1L << STAMP_SHIFT) - 1;

        private final Plan plan;
        private final Reach reach;
        private final long[] counted = new long[MAX_NODES * SETS * MAX_HEIGHT];
        private long stamp = 0;

        Ways(Plan plan, Reach reach) {
            this.plan = plan;
            this.reach = reach;
        }

        void forget() {
            stamp++;
        }

        int number(int set, int height) {
            return (int) tally(plan.root(), set, height);
        }

        /** No more than MANY: what is greater is cut down at once, as sums and products allow. */
        private long tally(int node, int set, int height) {
            if (height <= 0 || !reach.proves(node, set, height)) {
                return 0;
            }
            int at = (node * SETS + set) * MAX_HEIGHT + height - 1;
            if (at < 0 || at >= counted.length) {
                return 0;
            }
            if (counted[at] >>> STAMP_SHIFT != stamp) {
                counted[at] = stamp << STAMP_SHIFT | tallyByKind(node, set, height);
            }
            return counted[at] & COUNT_MASK;
        }

        private long tallyByKind(int node, int set, int height) {
            int first = plan.first(node);
            int second = plan.second(node);
            char kind = plan.kind(node);
            switch (kind) {
                case '1':
                case 'T':
                    return 1;
                case '!':
                    return tally(first, set, height - 1);
                case '*':
                    return tallySplits(first, second, set, height);
                case '&':
                    return capped(tally(first, set, height - 1) * tally(second, set, height - 1));
                case '+':
                    return capped(tally(first, set, height - 1) + tally(second, set, height - 1));
                case '[':
                    return tally(first, set | plan.loanBit(node), height - 1);
                default:
                    return tallyAtom(kind, set, height);
            }
        }

        private long tallySplits(int first, int second, int set, int height) {
            long sum = 0;
            int part = 0;
            for (int more = partsOf(set); more > 0; more--) {
                if (reach.proves(first, part, height - 1)) {
                    long others = tally(second, set ^ part, height - 1);
                    if (others != 0) {
                        sum = capped(sum + tally(first, part, height - 1) * others);
                    }
                }
                part = nextPart(part, set);
            }
            return sum;
        }

        private long tallyAtom(char head, int set, int height) {
            long sum = 0;
            for (int offer = 0; offer < OFFERS; offer++) {
                int rest = Plan.afterUse(offer, set);
                for (int face = 0; face < FACES && rest != ABSENT; face++) {
                    if (plan.hasHead(offer, face, head)) {
                        sum = capped(sum + tallyFace(plan.body(offer, face), rest, height));
                    }
                }
            }
            return sum;
        }

        private long tallyFace(int body, int rest, int height) {
            if (body == NO_NODE) {
                return rest == 0 ? 1 : 0;
            }
            return tally(body, rest, height - 1);
        }

        private static long capped(long number) {
            return Math.min(number, MANY);
        }
    }

    /**
     * The code of the first proof. No code of a goal is the beginning of another code of it from the
     * same set, so that the smallest number that can stand at each place gives the smallest code.
     */
    private static final class FirstProof {
        // A proof within the greatest height has fewer goals than this, with a number each at most.
        private static final int MAX_CODE = 1 << MAX_HEIGHT;

        private final Plan plan;
        private final Reach reach;
        private final int[] code = new int[MAX_CODE];
        private int length = 0;
        private boolean exists = false;
        private boolean found = false;

        FirstProof(Plan plan, Reach reach) {
            this.plan = plan;
            this.reach = reach;
        }

        void forget() {
            found = false;
        }

        void find(int set) {
            if (found) {
                return;
            }
            length = 0;
            int height = reach.leastHeight(plan.root(), set);
            exists = height != NONE;
            if (exists) {
                write(plan.root(), set, height);
            }
            found = true;
        }

        boolean exists() {
            return exists;
        }

        int length() {
            return length;
        }

        int at(int i) {
            return i >= 0 && i < length && i < MAX_CODE ? code[i] : NONE;
        }

        /** The numbers of an offer differ from each other only in the last digit. */
        int usesOf(int offer) {
            int lowest = numberOf(offer, 0);
            int uses = 0;
            for (int i = 0; i < length; i++) {
                if (at(i) >= lowest && at(i) < lowest + FACES) {
                    uses++;
                }
            }
            return uses;
        }

        private void write(int node, int set, int height) {
            if (height <= 0) {
                return;
            }
            int first = plan.first(node);
            int second = plan.second(node);
            char kind = plan.kind(node);
            switch (kind) {
                case '1':
                case 'T':
                    break;
                case '!':
                    write(first, set, height - 1);
                    break;
                case '*':
                    writeSplit(first, second, set, height);
                    break;
                case '&':
                    write(first, set, height - 1);
                    write(second, set, height - 1);
                    break;
                case '+':
                    writeChoice(first, second, set, height);
                    break;
                case '[':
                    write(first, set | plan.loanBit(node), height - 1);
                    break;
                default:
                    writeAtom(kind, set, height);
                    break;
            }
        }

        private void writeSplit(int first, int second, int set, int height) {
            int part = 0;
            for (int more = partsOf(set); more > 0; more--) {
                if (reach.proves(first, part, height - 1) && reach.proves(second, set ^ part, height - 1)) {
                    append(SPLIT_CODE + part);
                    write(first, part, height - 1);
                    write(second, set ^ part, height - 1);
                    return;
                }
                part = nextPart(part, set);
            }
        }

        private void writeChoice(int first, int second, int set, int height) {
            if (reach.proves(first, set, height - 1)) {
                append(FIRST_CODE);
                write(first, set, height - 1);
            } else {
                append(SECOND_CODE);
                write(second, set, height - 1);
            }
        }

        private void writeAtom(char head, int set, int height) {
            for (int offer = 0; offer < OFFERS; offer++) {
                int rest = Plan.afterUse(offer, set);
                for (int face = 0; face < FACES && rest != ABSENT; face++) {
                    int body = plan.body(offer, face);
                    if (plan.hasHead(offer, face, head) && serves(body, rest, height)) {
                        append(numberOf(offer, face));
                        if (body != NO_NODE) {
                            write(body, rest, height - 1);
                        }
                        return;
                    }
                }
            }
        }

        private boolean serves(int body, int rest, int height) {
            return body == NO_NODE ? rest == 0 : reach.proves(body, rest, height - 1);
        }

        private void append(int number) {
            if (length >= 0 && length < MAX_CODE) {
                code[length] = number;
                length++;
            }
        }

        private static int numberOf(int offer, int face) {
            return offer < SINGLES ? 10 * offer + face : WELL_CODE + 10 * (offer - SINGLES) + face;
        }
    }

    /** The numbers of the trial. */
    private static final class Trial {
        private final int[] numbers = new int[MAX_TRIAL];
        private int length = 0;

        boolean append(int number) {
            if (length < 0 || length >= numbers.length) {
                return false;
            }
            numbers[length] = number;
            length++;
            return true;
        }

        int length() {
            return length;
        }

        /** ABSENT behind the last number. */
        int at(int i) {
            return i >= 0 && i < length && i < numbers.length ? numbers[i] : ABSENT;
        }

        void clear() {
            length = 0;
        }
    }

    /** Goes through the goals of a proof in the order in which the trial tells them. */
    private static final class Judge {
        private static final int PROOF = 0, HIGH = 1, SHORT = 2, WRONG = 3, LEFT = 4, BUSY = 5, LONG = 6;

        private final Plan plan;
        private final Trial trial;
        private int verdict = PROOF;
        private int used = 0;
        private int deepest = 0;

        Judge(Plan plan, Trial trial) {
            this.plan = plan;
            this.trial = trial;
        }

        void judge(int set) {
            verdict = PROOF;
            used = 0;
            deepest = 0;
            visit(plan.root(), set, 1);
            if (verdict == PROOF && used < trial.length()) {
                verdict = LONG;
            }
        }

        int verdict() {
            return verdict;
        }

        int used() {
            return used;
        }

        int deepest() {
            return deepest;
        }

        private void visit(int node, int set, int depth) {
            if (verdict != PROOF) {
                return;
            }
            if (depth > MAX_DEPTH) {
                verdict = HIGH;
                return;
            }
            deepest = Math.max(deepest, depth);
            char kind = plan.kind(node);
            switch (kind) {
                case '1':
                    demandEmpty(set);
                    break;
                case 'T':
                    break;
                case '!':
                    demandEmpty(set);
                    visit(plan.first(node), set, depth + 1);
                    break;
                case '*':
                    visitSplit(node, set, depth);
                    break;
                case '&':
                    visit(plan.first(node), set, depth + 1);
                    visit(plan.second(node), set, depth + 1);
                    break;
                case '+':
                    visitChoice(node, set, depth);
                    break;
                case '[':
                    visitLoan(node, set, depth);
                    break;
                default:
                    visitAtom(kind, set, depth);
                    break;
            }
        }

        private void visitSplit(int node, int set, int depth) {
            int part = trial.at(used) - SPLIT_CODE;
            if (lacksNumber() || refuseUnless(part >= 0 && (part & ~set) == 0)) {
                return;
            }
            used++;
            visit(plan.first(node), part, depth + 1);
            visit(plan.second(node), set ^ part, depth + 1);
        }

        private void visitChoice(int node, int set, int depth) {
            int number = trial.at(used);
            if (lacksNumber() || refuseUnless(number == FIRST_CODE || number == SECOND_CODE)) {
                return;
            }
            used++;
            visit(number == FIRST_CODE ? plan.first(node) : plan.second(node), set, depth + 1);
        }

        private void visitLoan(int node, int set, int depth) {
            int loan = plan.loanBit(node);
            if ((set & loan) != 0) {
                verdict = BUSY;
                return;
            }
            visit(plan.first(node), set | loan, depth + 1);
        }

        private void visitAtom(char head, int set, int depth) {
            int number = trial.at(used);
            if (lacksNumber() || refuseUnless(number < SPLIT_CODE)) {
                return;
            }
            int offer = offerOf(number);
            int face = number % 10;
            int rest = offer == ABSENT ? ABSENT : Plan.afterUse(offer, set);
            if (refuseUnless(rest != ABSENT && plan.hasHead(offer, face, head))) {
                return;
            }
            used++;
            int body = plan.body(offer, face);
            if (body == NO_NODE) {
                demandEmpty(rest);
            } else {
                visit(body, rest, depth + 1);
            }
        }

        private static int offerOf(int number) {
            int tens = number % WELL_CODE / 10;
            if (number < WELL_CODE) {
                return tens < SINGLES ? tens : ABSENT;
            }
            return tens < WELLS ? SINGLES + tens : ABSENT;
        }

        private boolean lacksNumber() {
            if (used < trial.length()) {
                return false;
            }
            verdict = SHORT;
            return true;
        }

        private boolean refuseUnless(boolean fits) {
            if (!fits) {
                verdict = WRONG;
            }
            return !fits;
        }

        private void demandEmpty(int set) {
            if (set != 0) {
                verdict = LEFT;
            }
        }
    }
}
