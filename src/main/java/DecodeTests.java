/**
 * Decoders of words: encodings with fixed bits and conditions, the trees of bit tests that come to the same,
 * a stream of words that wait, and answers that are kept.
 */
public final class DecodeTests {
    public static final int NONE = -1;

    private static final int MORE_NEEDED = -2;
    private static final int MOST_BITS = 8;
    private static final int MOST_ENCODINGS = 14;
    private static final int MOST_LENGTH = 3;
    private static final int MOST_FLAG = 7;
    private static final int MOST_FLAGS = 255;
    private static final int MOST_WAITING = 64;
    private static final int ROWS = 16;

    private static final int WORST = 0;
    private static final int TOGETHER = 1;
    private static final int PLAIN = 2;

    private final int bits;
    private final Encodings encodings;
    private final Tables tables;
    private final Tree tree;
    private final Kept kept;
    private final Waiting waiting;
    private int treeKind;
    private int hits;
    private int byTree;
    private int testsDone;
    private int taken;

    public DecodeTests(int bits) {
        this.bits = 1 + Math.floorMod(bits - 1, MOST_BITS);
        encodings = new Encodings(this.bits);
        tables = new Tables(this.bits);
        tree = new Tree(this.bits);
        kept = new Kept();
        waiting = new Waiting();
        treeKind = WORST;
    }

    public int encoding(int mask, int value, int length, int flag)
            throws IllegalArgumentException, UnsupportedOperationException {
        if (!isWord(mask) || (value & ~mask) != 0) {
            throw new IllegalArgumentException("mask or value");
        }
        if (length < 1 || length > MOST_LENGTH || flag < NONE || flag > MOST_FLAG) {
            throw new IllegalArgumentException("length or flag");
        }
        if (encodings.size() >= MOST_ENCODINGS) {
            throw new UnsupportedOperationException("no room for an encoding");
        }
        int number = encodings.add(mask, value, length, flag);
        tables.outdate();
        dropTree();
        return number;
    }

    public int kind(int kind) throws IllegalArgumentException {
        if (!isKind(kind)) {
            throw new IllegalArgumentException("kind");
        }
        int before = treeKind;
        treeKind = kind;
        dropTree();
        return before;
    }

    public int tried(int word, int flags) throws IllegalArgumentException {
        if (!isWord(word) || !isFlags(flags)) {
            throw new IllegalArgumentException("word or flags");
        }
        return encodings.firstThatFits(word, flags);
    }

    public int decode(int word, int flags) throws IllegalArgumentException {
        if (!isWord(word) || !isFlags(flags)) {
            throw new IllegalArgumentException("word or flags");
        }
        return answerFor(word, flags);
    }

    public int tests(int word) throws IllegalArgumentException {
        if (!isWord(word)) {
            throw new IllegalArgumentException("word");
        }
        Tree grown = grownTree();
        return grown.depthOf(grown.leafFor(word));
    }

    public int node(int k, int what) throws IndexOutOfBoundsException {
        Tree grown = grownTree();
        if (!grown.has(k)) {
            throw new IndexOutOfBoundsException("node");
        }
        switch (what) {
            case 0:
                return grown.bitOf(k);
            case 1:
                return grown.sideOf(k, 0);
            case 2:
                return grown.sideOf(k, 1);
            case 3:
                return grown.wordsOf(k);
            case 4:
                return Integer.bitCount(grown.listOf(k));
            default:
                throw new IndexOutOfBoundsException("what");
        }
    }

    public int listed(int k, int i) throws IndexOutOfBoundsException {
        Tree grown = grownTree();
        if (!grown.has(k)) {
            throw new IndexOutOfBoundsException("node");
        }
        int list = grown.listOf(k);
        if (i < 0 || i >= Integer.bitCount(list)) {
            throw new IndexOutOfBoundsException("place in the list");
        }
        return Encodings.memberAt(list, i);
    }

    public int cost(int kind, int what) throws IllegalArgumentException {
        if (!isKind(kind) || what < 0 || what > 1) {
            throw new IllegalArgumentException("kind or what");
        }
        tables.refresh(encodings);
        return what == 0 ? tables.deepest(kind) : tables.total(kind);
    }

    public int feed(int word) throws IllegalArgumentException, UnsupportedOperationException {
        if (!isWord(word)) {
            throw new IllegalArgumentException("word");
        }
        if (waiting.size() >= MOST_WAITING) {
            throw new UnsupportedOperationException("no room for a word");
        }
        waiting.append(word);
        return waiting.size();
    }

    public int take(int flags) throws IllegalArgumentException, IllegalStateException {
        if (!isFlags(flags)) {
            throw new IllegalArgumentException("flags");
        }
        if (waiting.size() == 0) {
            throw new IllegalStateException("no word waits");
        }
        int answer = answerFor(waiting.first(), flags);
        int length = answer == NONE ? 1 : encodings.lengthOf(answer);
        if (length > waiting.size()) {
            return MORE_NEEDED;
        }
        waiting.drop(length);
        taken++;
        return answer;
    }

    public boolean whole() {
        return !encodings.leaveWordOut();
    }

    public boolean crosses() {
        return encodings.anyCross();
    }

    public int count(int what) {
        switch (what) {
            case 0:
                return encodings.size();
            case 1:
                return grownTree().size();
            case 2:
                return grownTree().leaves();
            case 3:
                return hits;
            case 4:
                return byTree;
            case 5:
                return testsDone;
            case 6:
                return waiting.size();
            case 7:
                return taken;
            case 8:
                return kept.size();
            case 9:
                return bits;
            case 10:
                return treeKind;
            default:
                return NONE;
        }
    }

    private boolean isWord(int word) {
        return word >= 0 && word < 1 << bits;
    }

    private static boolean isFlags(int flags) {
        return flags >= 0 && flags <= MOST_FLAGS;
    }

    private static boolean isKind(int kind) {
        return kind >= WORST && kind <= PLAIN;
    }

    private void dropTree() {
        tree.clear();
        kept.clear();
    }

    /** Many calls change the tree and few look at it, so it is grown at the first look. */
    private Tree grownTree() {
        if (tree.size() == 0) {
            tables.refresh(encodings);
            tree.grow(tables, treeKind);
        }
        return tree;
    }

    private int answerFor(int word, int flags) {
        if (kept.holds(word, flags)) {
            hits++;
            return kept.answerOf(word);
        }
        Tree grown = grownTree();
        int leaf = grown.leafFor(word);
        int answer = encodings.firstOfList(grown.listOf(leaf), flags);
        byTree++;
        testsDone += grown.depthOf(leaf);
        kept.put(word, flags, answer);
        return answer;
    }

    /** The encodings in their order. A list is a set of their numbers, number n as bit n: the order is theirs. */
    private static final class Encodings {
        private final int words;
        private final int[] masks = new int[MOST_ENCODINGS];
        private final int[] values = new int[MOST_ENCODINGS];
        private final int[] lengths = new int[MOST_ENCODINGS];
        private final int[] conditions = new int[MOST_ENCODINGS];
        private final int[] lists;
        private int unconditional;
        private int size;

        Encodings(int bits) {
            words = 1 << bits;
            lists = new int[words];
        }

        int size() {
            return size;
        }

        int lengthOf(int number) {
            return lengths[number];
        }

        int listFor(int word) {
            return lists[word];
        }

        int add(int mask, int value, int length, int flag) {
            int number = size;
            masks[number] = mask;
            values[number] = value;
            lengths[number] = length;
            conditions[number] = flag;
            size++;
            addToLists(number);
            if (flag == NONE) {
                unconditional |= 1 << number;
            }
            return number;
        }

        /** Lists that have an encoding without condition are closed: nothing behind it is ever reached. */
        private void addToLists(int number) {
            for (int word = 0; word < words; word++) {
                if (fits(number, word) && (lists[word] & unconditional) == 0) {
                    lists[word] |= 1 << number;
                }
            }
        }

        private boolean fits(int number, int word) {
            return (word & masks[number]) == values[number];
        }

        private boolean isOpen(int number, int flags) {
            int flag = conditions[number];
            return flag == NONE || (flags >> flag & 1) == 1;
        }

        int firstThatFits(int word, int flags) {
            for (int number = 0; number < size; number++) {
                if (fits(number, word) && isOpen(number, flags)) {
                    return number;
                }
            }
            return NONE;
        }

        int firstOfList(int list, int flags) {
            for (int number = 0; number < size; number++) {
                if ((list >> number & 1) == 1 && isOpen(number, flags)) {
                    return number;
                }
            }
            return NONE;
        }

        static int memberAt(int list, int place) {
            int before = 0;
            for (int number = 0; number < MOST_ENCODINGS; number++) {
                if ((list >> number & 1) == 1) {
                    if (before == place) {
                        return number;
                    }
                    before++;
                }
            }
            return NONE;
        }

        boolean leaveWordOut() {
            for (int word = 0; word < words; word++) {
                if (lists[word] == 0) {
                    return true;
                }
            }
            return false;
        }

        boolean anyCross() {
            for (int a = 0; a < size; a++) {
                for (int b = a + 1; b < size; b++) {
                    if (haveCommonWord(a, b) && !hasAllOf(a, b) && !hasAllOf(b, a)) {
                        return true;
                    }
                }
            }
            return false;
        }

        private boolean haveCommonWord(int a, int b) {
            return ((values[a] ^ values[b]) & masks[a] & masks[b]) == 0;
        }

        /** Only for two with a common word: then the values agree wherever both masks look. */
        private boolean hasAllOf(int a, int b) {
            return (masks[a] & ~masks[b]) == 0;
        }
    }

    /**
     * The exact tables over all groups of words that bit tests can leave. A group is a number with one digit to
     * the base 3 for each bit: 0 or 1 where the bit is tested, 2 where it is not. Both sides of a group have
     * smaller numbers than the group, so one pass upwards knows the best trees below each.
     */
    private static final class Tables {
        private static final int MIXED = -1;
        private static final int BIT_FIELD = 3;
        private static final int BIT_MASK = 7;
        private static final int FAR = 1 << 20;
        private static final int[] POWERS = {1, 3, 9, 27, 81, 243, 729, 2187, 6561};

        private final int bits;
        private final int groups;
        /** The one list of all words of a group, or MIXED. */
        private final int[] common;
        /** Of mixed groups the best cost, shifted left, with its lowest bit below: the least number is the best. */
        private final int[] worst;
        private final int[] together;
        private boolean current;

        Tables(int bits) {
            this.bits = bits;
            groups = POWERS[bits];
            common = new int[groups];
            worst = new int[groups];
            together = new int[groups];
        }

        void outdate() {
            current = false;
        }

        /** Counts through the groups; free and ones are the bits whose digits are 2 and 1 in the group at hand. */
        void refresh(Encodings encodings) {
            if (current) {
                return;
            }
            int free = 0;
            int ones = 0;
            for (int group = 0; group < groups; group++) {
                common[group] = free == 0 ? encodings.listFor(ones) : commonOfSides(group, free);
                weigh(group, free);
                int carried = ~free & (free + 1);
                free &= -carried;
                if ((ones & carried) == 0) {
                    ones |= carried;
                } else {
                    ones ^= carried;
                    free |= carried;
                }
            }
            current = true;
        }

        int allWords() {
            return groups - 1;
        }

        int listOf(int group) {
            return common[group];
        }

        static int side(int group, int bit, int value) {
            return group - (2 - value) * POWERS[bit];
        }

        private int commonOfSides(int group, int free) {
            int bit = Integer.numberOfTrailingZeros(free);
            int list = common[side(group, bit, 0)];
            return list == common[side(group, bit, 1)] ? list : MIXED;
        }

        private void weigh(int group, int free) {
            worst[group] = 0;
            together[group] = 0;
            if (common[group] != MIXED) {
                return;
            }
            int leastWorst = FAR;
            int leastTogether = FAR;
            for (int bit = 0; bit < bits; bit++) {
                if ((free >> bit & 1) == 1) {
                    int zero = side(group, bit, 0);
                    int one = side(group, bit, 1);
                    int deeper = Math.max(worst[zero] >> BIT_FIELD, worst[one] >> BIT_FIELD);
                    int sum = (together[zero] >> BIT_FIELD) + (together[one] >> BIT_FIELD);
                    leastWorst = Math.min(leastWorst, deeper << BIT_FIELD | bit);
                    leastTogether = Math.min(leastTogether, sum << BIT_FIELD | bit);
                }
            }
            int words = 1 << Integer.bitCount(free);
            worst[group] = leastWorst + (1 << BIT_FIELD);
            together[group] = leastTogether + (words << BIT_FIELD);
        }

        /** The bit that a tree of the kind tests for the group, after depth tests; NONE when it has a leaf there. */
        int choice(int kind, int group, int depth) {
            if (depth >= bits || common[group] != MIXED) {
                return NONE;
            }
            if (kind == WORST) {
                return worst[group] & BIT_MASK;
            }
            if (kind == TOGETHER) {
                return together[group] & BIT_MASK;
            }
            return bits - 1 - depth;
        }

        int deepest(int kind) {
            return deepestBelow(this, kind, allWords(), 0);
        }

        private static int deepestBelow(Tables tables, int kind, int group, int depth) {
            int bit = tables.choice(kind, group, depth);
            if (bit == NONE) {
                return 0;
            }
            int zero = deepestBelow(tables, kind, side(group, bit, 0), depth + 1);
            int one = deepestBelow(tables, kind, side(group, bit, 1), depth + 1);
            return 1 + Math.max(zero, one);
        }

        int total(int kind) {
            return totalBelow(this, kind, allWords(), 0);
        }

        private static int totalBelow(Tables tables, int kind, int group, int depth) {
            int bit = tables.choice(kind, group, depth);
            if (bit == NONE) {
                return 0;
            }
            int zero = totalBelow(tables, kind, side(group, bit, 0), depth + 1);
            int one = totalBelow(tables, kind, side(group, bit, 1), depth + 1);
            return (1 << (tables.bits - depth)) + zero + one;
        }
    }

    /** The nodes in their order; without any until it is grown. */
    private static final class Tree {
        private final int bits;
        private final int[] tested;
        private final int[] zeros;
        private final int[] ones;
        private final int[] depths;
        private final int[] lists;
        private int size;
        private int leaves;

        Tree(int bits) {
            this.bits = bits;
            int most = (2 << bits) - 1;
            tested = new int[most];
            zeros = new int[most];
            ones = new int[most];
            depths = new int[most];
            lists = new int[most];
        }

        void clear() {
            size = 0;
            leaves = 0;
        }

        void grow(Tables tables, int kind) {
            clear();
            growBelow(this, tables, kind, tables.allWords(), 0);
        }

        private static int growBelow(Tree tree, Tables tables, int kind, int group, int depth) {
            int bit = tables.choice(kind, group, depth);
            if (bit == NONE) {
                return tree.addLeaf(tables.listOf(group), depth);
            }
            int k = tree.addNode(bit, depth);
            tree.zeros[k] = growBelow(tree, tables, kind, Tables.side(group, bit, 0), depth + 1);
            tree.ones[k] = growBelow(tree, tables, kind, Tables.side(group, bit, 1), depth + 1);
            return k;
        }

        private int addLeaf(int list, int depth) {
            int k = addNode(NONE, depth);
            zeros[k] = NONE;
            ones[k] = NONE;
            lists[k] = list;
            leaves++;
            return k;
        }

        private int addNode(int bit, int depth) {
            int k = size;
            tested[k] = bit;
            depths[k] = depth;
            lists[k] = 0;
            size++;
            return k;
        }

        int size() {
            return size;
        }

        int leaves() {
            return leaves;
        }

        boolean has(int k) {
            return k >= 0 && k < size;
        }

        int bitOf(int k) {
            return tested[k];
        }

        int sideOf(int k, int value) {
            return value == 0 ? zeros[k] : ones[k];
        }

        int depthOf(int k) {
            return depths[k];
        }

        /** Each test above a node leaves half of the words. */
        int wordsOf(int k) {
            return 1 << (bits - depths[k]);
        }

        int listOf(int k) {
            return lists[k];
        }

        int leafFor(int word) {
            int k = 0;
            for (int step = 0; step < bits && tested[k] != NONE; step++) {
                k = sideOf(k, word >> tested[k] & 1);
            }
            return k;
        }
    }

    /** The kept answers, a row by a word's lowest four bits. */
    private static final class Kept {
        private final int[] words = new int[ROWS];
        private final int[] flagBytes = new int[ROWS];
        private final int[] answers = new int[ROWS];
        private int size;

        Kept() {
            clear();
        }

        void clear() {
            for (int row = 0; row < ROWS; row++) {
                words[row] = NONE;
            }
            size = 0;
        }

        int size() {
            return size;
        }

        private static int rowOf(int word) {
            return word & (ROWS - 1);
        }

        boolean holds(int word, int flags) {
            int row = rowOf(word);
            return words[row] == word && flagBytes[row] == flags;
        }

        int answerOf(int word) {
            return answers[rowOf(word)];
        }

        void put(int word, int flags, int answer) {
            int row = rowOf(word);
            if (words[row] == NONE) {
                size++;
            }
            words[row] = word;
            flagBytes[row] = flags;
            answers[row] = answer;
        }
    }

    /** The stream's words, in a ring. */
    private static final class Waiting {
        private final int[] ring = new int[MOST_WAITING];
        private int start;
        private int size;

        int size() {
            return size;
        }

        int first() {
            return ring[start];
        }

        void append(int word) {
            ring[(start + size) % MOST_WAITING] = word;
            size++;
        }

        void drop(int words) {
            start = (start + words) % MOST_WAITING;
            size -= words;
        }
    }
}
