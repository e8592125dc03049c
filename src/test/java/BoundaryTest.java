import java.util.function.Consumer;

/** The boundary cases of the promises 1 to 14, sentence by sentence. */
public final class BoundaryTest {
    private static final int NONE = DecodeTests.NONE;
    private static final int MIN = Integer.MIN_VALUE;
    private static final int MAX = Integer.MAX_VALUE;
    private static final Class<?> ARGUMENT = IllegalArgumentException.class;
    private static final Class<?> UNSUPPORTED = UnsupportedOperationException.class;
    private static final Class<?> INDEX = IndexOutOfBoundsException.class;
    private static final Class<?> STATE = IllegalStateException.class;

    private static final Check CHECK = new Check();

    public static void main(String[] args) {
        newObject();
        encoding();
        kind();
        tried();
        decode();
        tests();
        node();
        listed();
        cost();
        feed();
        take();
        whole();
        crosses();
        count();
        CHECK.end("BoundaryTest");
    }

    private static void same(String what, long got, long due) {
        CHECK.same(what, got, due);
    }

    private static void same(String what, boolean got, boolean due) {
        CHECK.same(what, got, due);
    }

    private static void throwing(String what, Class<?> due, Check.Call call) {
        CHECK.throwing(what, due, call);
    }

    private static void leavesNoTrace(Consumer<DecodeTests> calls) {
        CHECK.also("what is refused, or only looks, changes nothing");
        new Twins(CHECK, 3, BoundaryTest::history, calls).stayAlike();
        new Twins(CHECK, 3, BoundaryTest::fullHistory, calls).stayAlike();
        new Twins(CHECK, 3, x -> x.kind(0), calls).stayAlike();
    }

    /** Words of three bits: 101 with flag 2, three long; 1xx, two long; x11 with flag 6. */
    private static DecodeTests small() {
        DecodeTests x = new DecodeTests(3);
        encodingsOfSmall(x);
        return x;
    }

    private static void encodingsOfSmall(DecodeTests x) {
        x.encoding(7, 5, 3, 2);
        x.encoding(4, 4, 2, NONE);
        x.encoding(3, 3, 1, 6);
    }

    private static void history(DecodeTests x) {
        encodingsOfSmall(x);
        x.kind(1);
        x.decode(5, 0);
        x.decode(5, 0);
        x.decode(3, 255);
        x.feed(3);
        x.feed(5);
        x.feed(1);
        x.take(255);
    }

    private static void fullHistory(DecodeTests x) {
        for (int i = 0; i < 14; i++) {
            x.encoding(7, i & 7, 1 + i % 3, i % 9 - 1);
        }
        x.kind(2);
        for (int word = 0; word < 8; word++) {
            x.decode(word, 255);
        }
        for (int i = 0; i < 64; i++) {
            x.feed(i * 5 & 7);
        }
    }

    // Promise 1

    private static void newObject() {
        CHECK.sentence("W is 1 + (bits - 1) modulo 8 (the rest not below 0)");
        for (int bits = -40; bits <= 40; bits++) {
            width(bits);
        }
        for (int i = 0; i < 10; i++) {
            width(MIN + i);
            width(MAX - i);
        }
        CHECK.sentence("No encodings, a tree of kind 0 (one leaf).");
        for (int bits = 1; bits <= 8; bits++) {
            DecodeTests x = new DecodeTests(bits);
            int[] due = {0, 1, 1, 0, 0, 0, 0, 0, 0, bits, 0};
            for (int what = 0; what < due.length; what++) {
                same("count(" + what + ")", x.count(what), due[what]);
            }
            same("the leaf's bit", x.node(0, 0), NONE);
            same("its side for 0", x.node(0, 1), NONE);
            same("its side for 1", x.node(0, 2), NONE);
            same("its words", x.node(0, 3), 1 << bits);
            same("its list", x.node(0, 4), 0);
            throwing("no second node", INDEX, () -> x.node(1, 0));
            throwing("nothing is listed", INDEX, () -> x.listed(0, 0));
        }
    }

    private static void width(int bits) {
        long rest = ((long) bits - 1) % 8;
        long due = 1 + (rest < 0 ? rest + 8 : rest);
        DecodeTests x = new DecodeTests(bits);
        same("W of " + bits, x.count(9), due);
        same("the last word of " + bits, x.feed((1 << due) - 1), 1);
        throwing("one beyond it, of " + bits, ARGUMENT, () -> x.feed(1 << due));
    }

    // Promise 2

    private static void encoding() {
        encodingNumbers();
        encodingMakesTheTreeAnew();
        firstLooksAtANewTree();
        encodingMasks();
        encodingValues();
        encodingLengths();
        encodingFlags();
        encodingFifteenth();
        leavesNoTrace(x -> {
            throwing("mask", ARGUMENT, () -> x.encoding(8, 0, 1, NONE));
            throwing("value", ARGUMENT, () -> x.encoding(3, 4, 1, NONE));
            throwing("length", ARGUMENT, () -> x.encoding(7, 7, 4, NONE));
            throwing("flag", ARGUMENT, () -> x.encoding(7, 7, 1, 8));
        });
    }

    private static void encodingNumbers() {
        CHECK.sentence("An encoding more: its number");
        DecodeTests x = new DecodeTests(1);
        for (int i = 0; i < 14; i++) {
            same("equal ones have numbers of their own", x.encoding(1, 1, 1, 3), i);
            same("how many", x.count(0), i + 1);
        }
    }

    private static void encodingMakesTheTreeAnew() {
        CHECK.sentence("the tree is made anew (of its kind)");
        int[] nodes = {3, 3, 15};
        for (int kind = 0; kind <= 2; kind++) {
            DecodeTests x = new DecodeTests(3);
            x.kind(kind);
            same("one leaf before", x.count(1), 1);
            x.encoding(1, 1, 1, 5);
            same("nodes of kind " + kind, x.count(1), nodes[kind]);
            x.encoding(0, 0, 1, NONE);
            same("no more, with longer lists", x.count(1), nodes[kind]);
            same("longer at its last leaf", x.node(nodes[kind] - 1, 4), 2);
            same("the kind stays", x.count(10), kind);
            DecodeTests first = new DecodeTests(3);
            first.kind(kind);
            first.encoding(0, 0, 1, NONE);
            same("from one leaf", first.count(1), 1);
            first.encoding(1, 1, 1, 5);
            same("to one leaf", first.count(1), 1);
        }
    }

    /** Whatever looks first at the tree sees the new one: each look has an object of its own. */
    private static void firstLooksAtANewTree() {
        CHECK.sentence("the tree is made anew");
        same("nodes", changed().count(1), 5);
        same("leaves", changed().count(2), 3);
        same("tests", changed().tests(3), 2);
        same("node", changed().node(4, 3), 1);
        same("listed", changed().listed(4, 1), 1);
        same("cost", changed().cost(0, 1), 6);
        same("decode", changed().decode(3, 0), 1);
        DecodeTests x = changed();
        x.feed(3);
        same("take", x.take(0), 1);
        same("two tests more", x.count(5), 3);
        same("leaves of a new object", new DecodeTests(2).count(2), 1);
    }

    /** Looked at while x1 has encoding 0, before 11 has encoding 1 too. */
    private static DecodeTests changed() {
        DecodeTests x = new DecodeTests(2);
        x.encoding(1, 1, 1, 0);
        same("nodes before", x.count(1), 3);
        same("cost before", x.cost(0, 1), 4);
        same("the word before", x.decode(3, 0), NONE);
        same("its tests", x.count(5), 1);
        x.encoding(3, 3, 1, NONE);
        return x;
    }

    private static void encodingMasks() {
        CHECK.sentence("IllegalArgumentException, when mask is not a word");
        for (int bits = 1; bits <= 8; bits++) {
            DecodeTests x = new DecodeTests(bits);
            int beyond = 1 << bits;
            for (int mask : new int[] {beyond, beyond + 1, 2 * beyond - 1, MAX, -1, -beyond, MIN, MIN + 1}) {
                throwing("mask " + mask + " of " + bits, ARGUMENT, () -> x.encoding(mask, 0, 1, NONE));
            }
            same("none came", x.count(0), 0);
            same("mask 0", x.encoding(0, 0, 1, 0), 0);
            same("the last mask", x.encoding(beyond - 1, 0, 1, 0), 1);
        }
    }

    private static void encodingValues() {
        CHECK.sentence("the value has bits that the mask has not");
        DecodeTests x = new DecodeTests(3);
        int[][] wrong = {{0, 1}, {0, 4}, {0, -1}, {0, MIN}, {5, 2}, {5, 3}, {5, 6}, {5, 7}, {7, 8}, {7, 15}, {7, -1},
            {7, MIN}, {7, MAX}, {7, 1 << 30}};
        for (int[] w : wrong) {
            throwing("value " + w[1] + " of mask " + w[0], ARGUMENT, () -> x.encoding(w[0], w[1], 1, NONE));
        }
        same("none came", x.count(0), 0);
        int[][] right = {{0, 0}, {5, 0}, {5, 1}, {5, 4}, {5, 5}, {7, 0}, {7, 7}};
        for (int i = 0; i < right.length; i++) {
            same("value " + right[i][1], x.encoding(right[i][0], right[i][1], 1, 0), i);
        }
    }

    private static void encodingLengths() {
        CHECK.sentence("length is not 1 .. 3");
        DecodeTests x = new DecodeTests(3);
        for (int length : new int[] {0, 4, 5, -1, -3, MIN, MAX}) {
            throwing("length " + length, ARGUMENT, () -> x.encoding(7, 7, length, NONE));
        }
        same("none came", x.count(0), 0);
        for (int length = 1; length <= 3; length++) {
            same("length " + length, x.encoding(7, 7, length, 0), length - 1);
        }
    }

    private static void encodingFlags() {
        CHECK.sentence("or flag not NONE or 0 .. 7");
        DecodeTests x = new DecodeTests(3);
        for (int flag : new int[] {-2, -8, 8, 9, 32, 255, MIN, MAX}) {
            throwing("flag " + flag, ARGUMENT, () -> x.encoding(7, 7, 1, flag));
        }
        same("none came", x.count(0), 0);
        for (int flag = NONE; flag <= 7; flag++) {
            same("flag " + flag, x.encoding(7, 7, 1, flag), flag + 1);
        }
    }

    private static void encodingFifteenth() {
        CHECK.sentence("UnsupportedOperationException, when there are 14.");
        DecodeTests x = new DecodeTests(3);
        for (int i = 0; i < 14; i++) {
            same("encoding " + i, x.encoding(7, 7, 1, 0), i);
        }
        throwing("a 15th", UNSUPPORTED, () -> x.encoding(0, 0, 1, NONE));
        throwing("again", UNSUPPORTED, () -> x.encoding(7, 7, 3, 7));
        same("14 there are", x.count(0), 14);
        same("it is not tried", x.tried(0, 255), NONE);
        same("nor in a list", x.whole(), false);
    }

    // Promise 3

    private static void kind() {
        CHECK.sentence("The tree is of another kind (made anew): the one before.");
        DecodeTests x = new DecodeTests(3);
        x.encoding(1, 1, 1, NONE);
        int[] nodes = {3, 3, 15};
        int before = 0;
        for (int kind : new int[] {2, 0, 1, 2, 1, 0, 0, 1, 1, 2, 2, 0}) {
            same("kind(" + kind + ")", x.kind(kind), before);
            same("the kind is", x.count(10), kind);
            same("its nodes", x.count(1), nodes[kind]);
            before = kind;
        }
        CHECK.sentence("IllegalArgumentException, when it is not 0 .. 2.");
        for (int kind : new int[] {-1, 3, 4, MIN, MAX}) {
            throwing("kind(" + kind + ")", ARGUMENT, () -> x.kind(kind));
            same("the kind is still", x.count(10), 0);
        }
        leavesNoTrace(y -> {
            throwing("too low", ARGUMENT, () -> y.kind(-1));
            throwing("too high", ARGUMENT, () -> y.kind(3));
        });
    }

    // Promise 4

    private static void tried() {
        CHECK.sentence("The answer, by trying all in order.");
        DecodeTests x = new DecodeTests(8);
        same("none to try", x.tried(255, 255), NONE);
        for (int i = 0; i < 13; i++) {
            x.encoding(255, i, 1, i % 8);
        }
        x.encoding(255, 255, 1, 7);
        same("the first", x.tried(0, 1), 0);
        same("the last", x.tried(255, 128), 13);
        same("the last, which does not hold", x.tried(255, 127), NONE);
        same("none fits", x.tried(254, 255), NONE);
        CHECK.sentence("(Nothing is counted or kept.)");
        for (int what = 3; what <= 8; what++) {
            same("count(" + what + ")", x.count(what), 0);
        }
        leavesNoTrace(y -> {
            throwing("word", ARGUMENT, () -> y.tried(8, 0));
            throwing("word", ARGUMENT, () -> y.tried(-1, 0));
            throwing("flags", ARGUMENT, () -> y.tried(7, 256));
            throwing("flags", ARGUMENT, () -> y.tried(7, -1));
            throwing("both", ARGUMENT, () -> y.tried(8, 256));
        });
        leavesNoTrace(y -> {
            y.tried(0, 0);
            y.tried(7, 255);
        });
    }

    // Promise 5

    private static void decode() {
        CHECK.sentence("The answer, by what is kept, or the tree.");
        for (int kind = 0; kind <= 2; kind++) {
            DecodeTests x = small();
            same("before", x.kind(kind), 0);
            for (int flags : new int[] {0, 4, 64, 255}) {
                for (int word = 0; word < 8; word++) {
                    String call = "decode(" + word + ", " + flags + ") of kind " + kind;
                    same(call + " by the tree", x.decode(word, flags), x.tried(word, flags));
                    same(call + " by what is kept", x.decode(word, flags), x.tried(word, flags));
                }
            }
            same("the first of each two by the tree", x.count(4), 32);
            same("the second by what is kept", x.count(3), 32);
            same("rows of three bits", x.count(8), 8);
        }
        leavesNoTrace(y -> {
            throwing("word", ARGUMENT, () -> y.decode(8, 0));
            throwing("word", ARGUMENT, () -> y.decode(-1, 0));
            throwing("word", ARGUMENT, () -> y.decode(-11, 0));
            throwing("flags", ARGUMENT, () -> y.decode(5, 256));
            throwing("flags", ARGUMENT, () -> y.decode(5, -1));
            throwing("both", ARGUMENT, () -> y.decode(MAX, MIN));
        });
    }

    // Promise 6

    private static void tests() {
        CHECK.sentence("How many tests the tree needs for a word.");
        for (int bits = 1; bits <= 8; bits++) {
            DecodeTests x = new DecodeTests(bits);
            int last = (1 << bits) - 1;
            same("none in one leaf", x.tests(0), 0);
            same("none in one leaf", x.tests(last), 0);
            x.encoding(last, last, 1, NONE);
            same("one for the first word", x.tests(0), 1);
            same("all for the last word", x.tests(last), bits);
            x.kind(2);
            same("one in a plain tree", x.tests(0), 1);
            same("all in a plain tree", x.tests(last), bits);
            same("nothing is counted", x.count(4) + x.count(5), 0);
            same("nothing is kept", x.count(8), 0);
        }
        leavesNoTrace(y -> {
            throwing("too large", ARGUMENT, () -> y.tests(8));
            throwing("below 0", ARGUMENT, () -> y.tests(-1));
            throwing("the largest", ARGUMENT, () -> y.tests(MAX));
            throwing("the least", ARGUMENT, () -> y.tests(MIN));
        });
        leavesNoTrace(y -> y.tests(7));
    }

    // Promise 7

    private static void node() {
        nodeOfLeaves();
        nodeWords();
        nodeLists();
        nodeThereIsNone();
        nodeOtherWhat();
    }

    private static void nodeOfLeaves() {
        CHECK.sentence("Of node k its bit (what 0; NONE of a leaf), the nodes for 0 and 1 (1, 2; NONE of a leaf)");
        DecodeTests x = new DecodeTests(1);
        for (int what = 0; what <= 2; what++) {
            same("node(0, " + what + ") of one leaf", x.node(0, what), NONE);
        }
        x.encoding(1, 1, 1, NONE);
        for (int what = 0; what <= 2; what++) {
            same("node(0, " + what + ")", x.node(0, what), what);
            same("node(1, " + what + ")", x.node(1, what), NONE);
            same("node(2, " + what + ")", x.node(2, what), NONE);
        }
        DecodeTests y = new DecodeTests(8);
        y.encoding(128, 128, 1, NONE);
        same("the highest bit", y.node(0, 0), 7);
    }

    private static void nodeWords() {
        CHECK.sentence("how many words come to it (3)");
        for (int bits = 1; bits <= 8; bits++) {
            DecodeTests x = new DecodeTests(bits);
            same("all to one leaf", x.node(0, 3), 1 << bits);
            x.kind(2);
            x.encoding(1, 1, 1, NONE);
            for (int depth = 0; depth <= bits; depth++) {
                same("after " + depth + " tests", x.node(depth, 3), 1 << (bits - depth));
            }
            same("one to the last leaf", x.node(x.count(1) - 1, 3), 1);
        }
    }

    private static void nodeLists() {
        CHECK.sentence("how many encodings its list has (4; 0 of none that is a leaf)");
        DecodeTests x = new DecodeTests(1);
        same("an empty list", x.node(0, 4), 0);
        for (int i = 1; i <= 13; i++) {
            x.encoding(0, 0, 1, 0);
            same("a list of " + i, x.node(0, 4), i);
        }
        x.encoding(1, 1, 1, 0);
        same("no leaf", x.node(0, 4), 0);
        same("13 of them", x.node(1, 4), 13);
        same("the most", x.node(2, 4), 14);
    }

    private static void nodeThereIsNone() {
        CHECK.sentence("IndexOutOfBoundsException, when there is none");
        DecodeTests x = new DecodeTests(8);
        throwing("node(1, 0) of one leaf", INDEX, () -> x.node(1, 0));
        x.encoding(1, 1, 1, NONE);
        x.kind(2);
        same("the last of the most", x.node(510, 3), 1);
        for (int what = 0; what <= 4; what++) {
            int w = what;
            for (int k : new int[] {511, 512, MAX, -1, MIN}) {
                throwing("node(" + k + ", " + w + ") of 511 nodes", INDEX, () -> x.node(k, w));
            }
        }
        x.kind(0);
        same("the last of three", x.node(2, 3), 128);
        throwing("those of the tree before are gone", INDEX, () -> x.node(3, 3));
        throwing("those of the tree before are gone", INDEX, () -> x.node(510, 3));
        leavesNoTrace(y -> {
            throwing("k", INDEX, () -> y.node(99, 0));
            throwing("k", INDEX, () -> y.node(-1, 0));
        });
    }

    private static void nodeOtherWhat() {
        CHECK.sentence("or for another what");
        DecodeTests x = new DecodeTests(1);
        x.encoding(1, 1, 1, NONE);
        for (int k = 0; k <= 2; k++) {
            int node = k;
            for (int what : new int[] {-1, 5, 6, MIN, MAX}) {
                throwing("node(" + k + ", " + what + ")", INDEX, () -> x.node(node, what));
            }
        }
        throwing("neither node nor what", INDEX, () -> x.node(3, 5));
        throwing("neither node nor what", INDEX, () -> x.node(-1, -1));
    }

    // Promise 8

    private static void listed() {
        CHECK.sentence("Encoding i of a leaf's list.");
        DecodeTests x = new DecodeTests(1);
        for (int i = 0; i < 14; i++) {
            x.encoding(i % 2, 0, 1, 0);
        }
        for (int i = 0; i < 14; i++) {
            same("listed(1, " + i + ")", x.listed(1, i), i);
        }
        for (int i = 0; i < 7; i++) {
            same("listed(2, " + i + ")", x.listed(2, i), 2 * i);
        }
        CHECK.sentence("IndexOutOfBoundsException, when there is no such node");
        for (int k : new int[] {3, 4, 511, MAX, -1, MIN}) {
            throwing("listed(" + k + ", 0)", INDEX, () -> x.listed(k, 0));
        }
        CHECK.sentence("it is no leaf");
        for (int i : new int[] {0, 1, 13, 14, -1, MIN, MAX}) {
            throwing("listed(0, " + i + ")", INDEX, () -> x.listed(0, i));
        }
        CHECK.sentence("or has none there");
        for (int i : new int[] {14, 15, MAX, -1, MIN}) {
            throwing("listed(1, " + i + ") of 14", INDEX, () -> x.listed(1, i));
        }
        for (int i : new int[] {7, 8, 13, 14, 32, MAX, -1, MIN}) {
            throwing("listed(2, " + i + ") of 7", INDEX, () -> x.listed(2, i));
        }
        DecodeTests empty = new DecodeTests(1);
        throwing("an empty list", INDEX, () -> empty.listed(0, 0));
        throwing("an empty list", INDEX, () -> empty.listed(0, -1));
        leavesNoTrace(y -> {
            throwing("k", INDEX, () -> y.listed(99, 0));
            throwing("k", INDEX, () -> y.listed(-1, 0));
            throwing("i", INDEX, () -> y.listed(0, 14));
            throwing("i", INDEX, () -> y.listed(0, -1));
        });
    }

    // Promise 9

    private static void cost() {
        CHECK.sentence("The most tests that a word needs (what 0), all words' together (1)");
        for (int bits = 1; bits <= 8; bits++) {
            DecodeTests x = new DecodeTests(bits);
            costs(x, "one leaf", new int[][] {{0, 0}, {0, 0}, {0, 0}});
            x.encoding(1, 1, 1, NONE);
            int words = 1 << bits;
            costs(x, "the lowest bit", new int[][] {{1, words}, {1, words}, {bits, bits * words}});
            DecodeTests y = new DecodeTests(bits);
            y.encoding(words - 1, 0, 1, NONE);
            int halves = 2 * words - 2;
            costs(y, "one word", new int[][] {{bits, halves}, {bits, halves}, {bits, halves}});
        }
        DecodeTests deepZeros = new DecodeTests(3);
        deepZeros.encoding(4, 4, 1, NONE);
        deepZeros.encoding(7, 0, 1, NONE);
        costs(deepZeros, "deepest at the side for 0", new int[][] {{3, 20}, {3, 14}, {3, 14}});
        DecodeTests deepOnes = new DecodeTests(3);
        deepOnes.encoding(7, 7, 1, NONE);
        costs(deepOnes, "deepest at the side for 1", new int[][] {{3, 14}, {3, 14}, {3, 14}});
        CHECK.sentence("with a tree of a kind, whichever there is");
        DecodeTests z = new DecodeTests(3);
        z.encoding(4, 4, 1, NONE);
        z.encoding(6, 2, 1, NONE);
        for (int kind = 0; kind <= 2; kind++) {
            z.kind(kind);
            costs(z, "while the kind is " + kind, new int[][] {{2, 16}, {2, 12}, {2, 12}});
            same("the kind stays", z.count(10), kind);
        }
        CHECK.sentence("IllegalArgumentException, when there is no such kind or what.");
        for (int wrong : new int[] {-1, 3, 4, MIN, MAX}) {
            throwing("cost(" + wrong + ", 0)", ARGUMENT, () -> z.cost(wrong, 0));
            throwing("cost(" + wrong + ", 1)", ARGUMENT, () -> z.cost(wrong, 1));
        }
        for (int wrong : new int[] {-1, 2, 3, MIN, MAX}) {
            for (int kind = 0; kind <= 2; kind++) {
                int k = kind;
                throwing("cost(" + k + ", " + wrong + ")", ARGUMENT, () -> z.cost(k, wrong));
            }
        }
        throwing("neither kind nor what", ARGUMENT, () -> z.cost(3, 2));
        leavesNoTrace(y -> {
            throwing("kind", ARGUMENT, () -> y.cost(3, 0));
            throwing("what", ARGUMENT, () -> y.cost(0, 2));
        });
        leavesNoTrace(y -> {
            y.cost(0, 0);
            y.cost(1, 1);
            y.cost(2, 0);
        });
    }

    private static void costs(DecodeTests x, String when, int[][] due) {
        for (int kind = 0; kind <= 2; kind++) {
            for (int what = 0; what <= 1; what++) {
                same(when + ": cost(" + kind + ", " + what + ")", x.cost(kind, what), due[kind][what]);
            }
        }
    }

    // Promise 10

    private static void feed() {
        CHECK.sentence("A word comes into the stream: how many wait.");
        DecodeTests x = new DecodeTests(8);
        x.encoding(0, 0, 1, NONE);
        for (int i = 1; i <= 64; i++) {
            same("feed", x.feed(i), i);
        }
        CHECK.sentence("UnsupportedOperationException, when there are 64.");
        throwing("a 65th", UNSUPPORTED, () -> x.feed(0));
        throwing("a 66th", UNSUPPORTED, () -> x.feed(255));
        same("64 wait", x.count(6), 64);
        x.take(0);
        same("one has gone", x.count(6), 63);
        same("and there is room for one", x.feed(65), 64);
        throwing("for no more", UNSUPPORTED, () -> x.feed(66));
        feedInARing();
        leavesNoTrace(y -> {
            throwing("too large", ARGUMENT, () -> y.feed(8));
            throwing("below 0", ARGUMENT, () -> y.feed(-1));
        });
        CHECK.also("what is refused, or only looks, changes nothing");
        new Twins(CHECK, 3, BoundaryTest::fullHistory,
            y -> throwing("a 65th", UNSUPPORTED, () -> y.feed(3))).stayAlike();
    }

    /** Full three times over, with one and two and three words taken at once where the ring ends. */
    private static void feedInARing() {
        CHECK.also("a full stream keeps its order");
        for (int length = 1; length <= 3; length++) {
            DecodeTests x = new DecodeTests(3);
            for (int i = 0; i < 8; i++) {
                x.encoding(7, i, length, NONE);
            }
            int fed = 0;
            int next = 0;
            for (int calls = 8; calls < 380; calls += 2) {
                while (fed - next < 64) {
                    same("feed", x.feed(fed % 8), fed - next + 1);
                    fed++;
                    calls++;
                }
                same("the oldest goes", x.take(0), next % 8);
                next += length;
                same("those that wait", x.count(6), fed - next);
            }
        }
    }

    // Promise 11

    private static void take() {
        takeAnswers();
        takeOfNone();
        takeNeedsMore();
        takeOfNoWord();
        leavesNoTrace(y -> {
            throwing("flags", ARGUMENT, () -> y.take(256));
            throwing("flags", ARGUMENT, () -> y.take(-1));
            throwing("flags", ARGUMENT, () -> y.take(MIN));
        });
        CHECK.also("what is refused, or only looks, changes nothing");
        new Twins(CHECK, 3, BoundaryTest::encodingsOfSmall,
            y -> throwing("no word waits", STATE, () -> y.take(0))).stayAlike();
    }

    private static void takeAnswers() {
        CHECK.sentence("Takes the next one, decoded with flags: its answer (the words are gone)");
        DecodeTests x = small();
        for (int word : new int[] {5, 0, 0, 5, 0, 3}) {
            x.feed(word);
        }
        same("three are gone", x.take(4), 0);
        same("three wait", x.count(6), 3);
        same("other flags: two are gone", x.take(251), 1);
        same("one waits", x.count(6), 1);
        same("the last is gone", x.take(64), 2);
        same("none waits", x.count(6), 0);
        same("takes", x.count(7), 3);
        same("all were decoded", x.count(4), 3);
        same("and kept", x.count(8), 2);
    }

    private static void takeOfNone() {
        CHECK.sentence("NONE when there is none (one word is gone)");
        DecodeTests x = small();
        x.feed(0);
        x.feed(3);
        x.feed(5);
        same("an empty list", x.take(255), NONE);
        same("one word is gone", x.count(6), 2);
        same("none of the list holds", x.take(191), NONE);
        same("one word is gone", x.count(6), 1);
        same("takes that gave NONE count", x.count(7), 2);
    }

    private static void takeNeedsMore() {
        CHECK.sentence("or -2, when more words are needed");
        DecodeTests x = small();
        x.feed(5);
        same("one of three", x.take(4), -2);
        same("one of two", x.take(0), -2);
        same("one waits", x.count(6), 1);
        x.feed(7);
        same("two of three", x.take(4), -2);
        same("two wait", x.count(6), 2);
        same("no take counts", x.count(7), 0);
        x.feed(6);
        same("three of three", x.take(4), 0);
        same("none waits", x.count(6), 0);
        x.feed(4);
        same("one of two", x.take(0), -2);
        x.feed(0);
        same("two of two", x.take(0), 1);
        same("none waits", x.count(6), 0);
        same("takes", x.count(7), 2);
    }

    private static void takeOfNoWord() {
        CHECK.sentence("IllegalStateException, when no word waits.");
        DecodeTests x = small();
        throwing("none has come", STATE, () -> x.take(0));
        throwing("none has come", STATE, () -> x.take(255));
        x.feed(0);
        same("one", x.take(0), NONE);
        throwing("it has gone", STATE, () -> x.take(0));
        x.feed(4);
        x.feed(4);
        same("two", x.take(0), 1);
        throwing("they have gone", STATE, () -> x.take(0));
        same("takes", x.count(7), 2);
        same("decoded", x.count(4), 2);
    }

    // Promise 12

    private static void whole() {
        CHECK.sentence("Whether no word has an empty list.");
        for (int bits = 1; bits <= 8; bits++) {
            int last = (1 << bits) - 1;
            same("no encodings", new DecodeTests(bits).whole(), false);
            DecodeTests x = new DecodeTests(bits);
            x.encoding(0, 0, 1, 7);
            same("all words by one with a condition", x.whole(), true);
            DecodeTests y = new DecodeTests(bits);
            for (int bit = 0; bit < bits; bit++) {
                y.encoding(1 << bit, 0, 1, NONE);
            }
            same("all but the last word", y.whole(), false);
            y.encoding(last, last, 1, NONE);
            same("with the last word", y.whole(), true);
            DecodeTests z = new DecodeTests(bits);
            for (int bit = 0; bit < bits; bit++) {
                z.encoding(1 << bit, 1 << bit, 1, bit);
            }
            same("all but the first word", z.whole(), false);
            z.encoding(last, 0, 1, 0);
            same("with the first word", z.whole(), true);
        }
        leavesNoTrace(DecodeTests::whole);
    }

    // Promise 13

    private static void crosses() {
        CHECK.sentence("Whether there are encodings with a common word");
        same("none", crossing(new int[0][]), false);
        same("one", crossing(new int[][] {{5, 5}}), false);
        same("no common word", crossing(new int[][] {{5, 5}, {3, 0}}), false);
        same("but for one bit they have", crossing(new int[][] {{5, 5}, {3, 1}}), true);
        same("one common word", crossing(new int[][] {{12, 4}, {3, 2}}), true);
        same("the highest bit and the lowest", crossing(new int[][] {{8, 8}, {1, 1}}), true);
        CHECK.sentence("neither of which has all words of the other one");
        same("the same words", crossing(new int[][] {{5, 5}, {5, 5}}), false);
        same("all words, twice", crossing(new int[][] {{0, 0}, {0, 0}}), false);
        same("the first has all of the second", crossing(new int[][] {{0, 0}, {15, 15}}), false);
        same("the second has all of the first", crossing(new int[][] {{15, 15}, {7, 7}}), false);
        CHECK.also("any two of 14 encodings may cross");
        for (int a = 0; a < 14; a++) {
            for (int b = a + 1; b < 14; b++) {
                int[][] pairs = new int[14][];
                for (int i = 0; i < 14; i++) {
                    pairs[i] = i == a ? new int[] {14, 14} : i == b ? new int[] {13, 13} : new int[] {0, 0};
                }
                same("numbers " + a + " and " + b, crossing(pairs), true);
                pairs[b] = new int[] {15, 15};
                same("none, but for those within", crossing(pairs), false);
            }
        }
        leavesNoTrace(DecodeTests::crosses);
    }

    private static boolean crossing(int[][] masksAndValues) {
        DecodeTests x = new DecodeTests(4);
        for (int[] m : masksAndValues) {
            x.encoding(m[0], m[1], 1, 0);
        }
        return x.crosses();
    }

    // Promise 14

    private static void count() {
        countsAtTheirMost();
        countsOfRefusedCalls();
        CHECK.sentence("NONE for another what.");
        DecodeTests x = small();
        for (int what : new int[] {-1, -2, 11, 12, MIN, MAX}) {
            same("count(" + what + ")", x.count(what), NONE);
        }
        leavesNoTrace(y -> {
            y.count(-1);
            y.count(11);
            y.count(1);
        });
    }

    private static void countsAtTheirMost() {
        CHECK.sentence("Encodings (0), nodes (1), leaves (2), .. words that wait (6), .. rows kept now (8), W (9), the "
            + "tree's kind (10)");
        DecodeTests x = new DecodeTests(8);
        x.kind(2);
        for (int i = 0; i < 14; i++) {
            x.encoding(1, i % 2, 1, NONE);
        }
        for (int i = 0; i < 64; i++) {
            x.feed(i);
        }
        for (int i = 0; i < 16; i++) {
            x.decode(i, 0);
        }
        int[] due = {14, 511, 256, 0, 16, 128, 64, 0, 16, 8, 2};
        for (int what = 0; what < due.length; what++) {
            same("count(" + what + ")", x.count(what), due[what]);
        }
        CHECK.sentence("hits (3), decoded by the tree (4), tests done (5), .. takes that gave an answer or NONE (7)");
        for (int i = 0; i < 64; i++) {
            x.take(0);
        }
        due = new int[] {14, 511, 256, 16, 64, 512, 0, 64, 16, 8, 2};
        for (int what = 0; what < due.length; what++) {
            same("after 64 takes, count(" + what + ")", x.count(what), due[what]);
        }
        x.kind(0);
        due = new int[] {14, 3, 2, 16, 64, 512, 0, 64, 0, 8, 0};
        for (int what = 0; what < due.length; what++) {
            same("with a new tree, count(" + what + ")", x.count(what), due[what]);
        }
    }

    private static void countsOfRefusedCalls() {
        CHECK.sentence("takes that gave an answer or NONE (7)");
        DecodeTests x = small();
        throwing("no word waits", STATE, () -> x.take(0));
        x.feed(5);
        throwing("no flags", ARGUMENT, () -> x.take(256));
        same("more are needed", x.take(0), -2);
        same("none of these", x.count(7), 0);
        x.feed(5);
        same("an answer", x.take(0), 1);
        same("one", x.count(7), 1);
        x.feed(0);
        same("NONE", x.take(0), NONE);
        same("two", x.count(7), 2);
    }
}
