/** Each promise of the document by hand: ordinary inputs, the edges that it names, and wrong inputs. */
public final class PromiseTest {
    private static final int NONE = DecodeTests.NONE;
    private static final Class<?> ARGUMENT = IllegalArgumentException.class;
    private static final Class<?> UNSUPPORTED = UnsupportedOperationException.class;
    private static final Class<?> INDEX = IndexOutOfBoundsException.class;
    private static final Class<?> STATE = IllegalStateException.class;

    private static final Check CHECK = new Check();

    public static void main(String[] args) {
        newObject();
        encodingNumbers();
        encodingRefuses();
        kinds();
        triedInOrder();
        triedRefuses();
        decodeKeeps();
        decodeEmptiesRows();
        testsOfWords();
        nodesOfWorst();
        nodesOfTogether();
        nodesOfPlain();
        nodeRefuses();
        listedOfLeaves();
        costs();
        costsOfTies();
        feeding();
        taking();
        takingKeeps();
        takingInARing();
        wholes();
        crossings();
        counts();
        CHECK.end("PromiseTest");
    }

    private static void same(String what, long got, long due) {
        CHECK.same(what, got, due);
    }

    private static void same(String what, boolean got, boolean due) {
        CHECK.same(what, got, due);
    }

    private static void counts(String when, DecodeTests x, int first, int... due) {
        for (int i = 0; i < due.length; i++) {
            same(when + ": count(" + (first + i) + ")", x.count(first + i), due[i]);
        }
    }

    /** The words 1xx without condition behind 101 with flag 2: words of three bits. */
    private static DecodeTests small() {
        DecodeTests x = new DecodeTests(3);
        x.encoding(7, 5, 3, 2);
        x.encoding(4, 4, 2, NONE);
        return x;
    }

    // Promise 1
    private static void newObject() {
        int[][] widths = {{1, 1}, {2, 2}, {7, 7}, {8, 8}, {9, 1}, {16, 8}, {17, 1}, {0, 8}, {-1, 7}, {-6, 2}, {-7, 1},
            {-8, 8}, {Integer.MAX_VALUE, 7}, {Integer.MIN_VALUE, 8}, {Integer.MIN_VALUE + 1, 1}};
        for (int[] width : widths) {
            DecodeTests x = new DecodeTests(width[0]);
            counts("new " + width[0], x, -1, NONE, 0, 1, 1, 0, 0, 0, 0, 0, 0, width[1], 0, NONE);
            same("the leaf's words", x.node(0, 3), 1 << width[1]);
            same("the last word", x.decode((1 << width[1]) - 1, 255), NONE);
            CHECK.throwing("the word behind it", ARGUMENT, () -> x.decode(1 << width[1], 255));
        }
    }

    // Promise 2
    private static void encodingNumbers() {
        DecodeTests x = new DecodeTests(8);
        for (int i = 0; i < 14; i++) {
            same("encoding " + i, x.encoding(255, i, 1 + i % 3, i % 9 - 1), i);
            same("how many", x.count(0), i + 1);
            same("the tree is new", x.tried(i, 255), i);
            same("the tree is new", x.decode(i, 255), i);
        }
        CHECK.throwing("a 15th", UNSUPPORTED, () -> x.encoding(0, 0, 1, NONE));
        CHECK.throwing("a 15th with a wrong mask", ARGUMENT, () -> x.encoding(256, 0, 1, NONE));
        CHECK.throwing("a 15th with a wrong value", ARGUMENT, () -> x.encoding(1, 2, 1, NONE));
        CHECK.throwing("a 15th with a wrong length", ARGUMENT, () -> x.encoding(0, 0, 0, NONE));
        CHECK.throwing("a 15th with a wrong flag", ARGUMENT, () -> x.encoding(0, 0, 1, 8));
        same("how many", x.count(0), 14);
        x.kind(1);
        DecodeTests y = small();
        y.kind(2);
        y.encoding(0, 0, 1, NONE);
        same("a new encoding leaves the kind", y.count(10), 2);
        same("and the tree is of it", y.node(0, 0), 2);
    }

    private static void encodingRefuses() {
        DecodeTests x = new DecodeTests(3);
        x.decode(1, 1);
        int[][] wrong = {{8, 0, 1, -1}, {-1, 0, 1, -1}, {Integer.MIN_VALUE, 0, 1, -1}, {5, 2, 1, -1}, {5, 7, 1, -1},
            {7, 8, 1, -1}, {7, -1, 1, -1}, {0, 1, 1, -1}, {7, 7, 0, -1}, {7, 7, 4, -1}, {7, 7, -1, -1},
            {7, 7, 1, -2}, {7, 7, 1, 8}, {7, 7, 1, Integer.MAX_VALUE}};
        for (int[] w : wrong) {
            CHECK.throwing("encoding", ARGUMENT, () -> x.encoding(w[0], w[1], w[2], w[3]));
        }
        counts("nothing has changed", x, 0, 0, 1, 1);
        same("nor in the rows", x.count(8), 1);
        same("the edges are right", x.encoding(7, 7, 3, 7), 0);
        same("the edges are right", x.encoding(0, 0, 1, 0), 1);
    }

    // Promise 3
    private static void kinds() {
        DecodeTests x = small();
        x.decode(5, 0);
        CHECK.throwing("kind(-1)", ARGUMENT, () -> x.kind(-1));
        CHECK.throwing("kind(3)", ARGUMENT, () -> x.kind(3));
        same("a refused kind empties nothing", x.count(8), 1);
        same("kind before", x.kind(2), 0);
        same("a new tree empties the rows", x.count(8), 0);
        same("kind before", x.kind(1), 2);
        same("kind before", x.kind(1), 1);
        x.decode(5, 0);
        same("the same kind", x.kind(1), 1);
        same("is a new tree too", x.count(8), 0);
        same("kind now", x.count(10), 1);
        same("kind before", x.kind(0), 1);
    }

    // Promise 4
    private static void triedInOrder() {
        DecodeTests x = new DecodeTests(4);
        x.encoding(12, 8, 1, 0);
        x.encoding(8, 8, 1, 7);
        x.encoding(15, 9, 1, NONE);
        x.encoding(15, 9, 1, 1);
        x.encoding(1, 1, 1, 6);
        same("the first that holds", x.tried(9, 255), 0);
        same("its flag is 0", x.tried(9, 254), 1);
        same("both flags are 0", x.tried(9, 126), 2);
        same("one behind an unconditional one", x.tried(9, 2), 2);
        same("another word", x.tried(12, 1), NONE);
        same("another word", x.tried(12, 128), 1);
        same("the last one", x.tried(3, 64), 4);
        same("no flag", x.tried(3, 191), NONE);
        same("none fits", x.tried(0, 255), NONE);
        counts("nothing is counted or kept", x, 3, 0, 0, 0, 0, 0, 0);
    }

    private static void triedRefuses() {
        DecodeTests x = small();
        int[][] wrong = {{8, 0}, {-1, 0}, {0, -1}, {0, 256}, {Integer.MAX_VALUE, 0}, {0, Integer.MIN_VALUE}};
        for (int[] w : wrong) {
            CHECK.throwing("tried", ARGUMENT, () -> x.tried(w[0], w[1]));
            CHECK.throwing("decode", ARGUMENT, () -> x.decode(w[0], w[1]));
        }
        counts("nothing is counted or kept", x, 3, 0, 0, 0, 0, 0, 0);
        same("the edges", x.tried(7, 255), 1);
        same("the edges", x.tried(0, 0), NONE);
    }

    // Promise 5
    private static void decodeKeeps() {
        DecodeTests x = new DecodeTests(5);
        x.encoding(16, 16, 1, NONE);
        same("by the tree", x.decode(17, 0), 0);
        counts("by the tree", x, 3, 0, 1, 1);
        same("by the row", x.decode(17, 0), 0);
        counts("by the row", x, 3, 1, 1, 1);
        same("other flags are no hit", x.decode(17, 1), 0);
        counts("other flags", x, 3, 1, 2, 2);
        same("nor are the flags before", x.decode(17, 0), 0);
        counts("the flags before", x, 3, 1, 3, 3);
        same("one row still", x.count(8), 1);
        same("a word of the same row", x.decode(1, 0), NONE);
        same("takes it", x.count(8), 1);
        same("an answer NONE is kept too", x.decode(1, 0), NONE);
        counts("a hit", x, 3, 2, 4, 4);
        same("the word before is gone", x.decode(17, 0), 0);
        counts("no hit", x, 3, 2, 5, 5);
        for (int word = 0; word < 32; word++) {
            x.decode(word, 9);
        }
        same("all rows", x.count(8), 16);
        counts("all by the tree", x, 3, 2, 37, 37);
        for (int word = 31; word >= 16; word--) {
            same("kept", x.decode(word, 9), 0);
        }
        counts("all hits", x, 3, 18, 37, 37);
    }

    private static void decodeEmptiesRows() {
        DecodeTests x = small();
        same("flag 2", x.decode(5, 4), 0);
        same("no flag", x.decode(6, 0), 1);
        same("two rows", x.count(8), 2);
        x.encoding(0, 0, 1, NONE);
        same("a new encoding empties them", x.count(8), 0);
        same("no old answer", x.decode(0, 0), 2);
        counts("no hits", x, 3, 0, 3);
        x.kind(1);
        same("a new kind empties them", x.count(8), 0);
        same("again", x.decode(0, 0), 2);
        counts("no hits", x, 3, 0, 4);
        x.cost(2, 0);
        x.tests(0);
        x.count(1);
        same("looking does not", x.count(8), 1);
    }

    // Promise 6
    private static void testsOfWords() {
        DecodeTests x = new DecodeTests(3);
        same("a leaf alone", x.tests(0), 0);
        x.encoding(4, 4, 1, NONE);
        x.encoding(6, 2, 1, NONE);
        x.kind(2);
        int[] due = {2, 2, 2, 2, 1, 1, 1, 1};
        for (int word = 0; word < 8; word++) {
            same("tests(" + word + ")", x.tests(word), due[word]);
        }
        CHECK.throwing("tests(8)", ARGUMENT, () -> x.tests(8));
        CHECK.throwing("tests(-1)", ARGUMENT, () -> x.tests(-1));
        counts("nothing is counted or kept", x, 3, 0, 0, 0, 0, 0, 0);
    }

    private static void tree(String name, DecodeTests x, int[][] due) {
        same(name + ": nodes", x.count(1), due.length);
        for (int k = 0; k < due.length; k++) {
            for (int what = 0; what < 5; what++) {
                same(name + ": node(" + k + ", " + what + ")", x.node(k, what), due[k][what]);
            }
        }
    }

    /**
     * Lists: bit 2 set: encoding 0; 01x: encoding 1; 00x: none. Every best tree at worst needs two tests; the
     * lowest bit with which two are enough is 1, not 0.
     */
    private static void nodesOfWorst() {
        DecodeTests x = new DecodeTests(3);
        tree("new", x, new int[][] {{NONE, NONE, NONE, 8, 0}});
        x.encoding(4, 4, 1, NONE);
        tree("one", x, new int[][] {{2, 1, 2, 8, 0}, {NONE, NONE, NONE, 4, 0}, {NONE, NONE, NONE, 4, 1}});
        x.encoding(6, 2, 1, NONE);
        tree("two", x, new int[][] {{1, 1, 4, 8, 0}, {2, 2, 3, 4, 0}, {NONE, NONE, NONE, 2, 0},
            {NONE, NONE, NONE, 2, 1}, {2, 5, 6, 4, 0}, {NONE, NONE, NONE, 2, 1}, {NONE, NONE, NONE, 2, 1}});
        same("leaves", x.count(2), 4);
        DecodeTests y = new DecodeTests(2);
        y.encoding(3, 3, 1, 0);
        y.encoding(0, 0, 1, NONE);
        tree("of equal bits the lowest", y, new int[][] {{0, 1, 2, 4, 0}, {NONE, NONE, NONE, 2, 1}, {1, 3, 4, 2, 0},
            {NONE, NONE, NONE, 1, 1}, {NONE, NONE, NONE, 1, 2}});
    }

    private static void nodesOfTogether() {
        DecodeTests x = new DecodeTests(3);
        x.encoding(4, 4, 1, NONE);
        x.encoding(6, 2, 1, NONE);
        x.kind(1);
        tree("together", x, new int[][] {{2, 1, 4, 8, 0}, {1, 2, 3, 4, 0}, {NONE, NONE, NONE, 2, 0},
            {NONE, NONE, NONE, 2, 1}, {NONE, NONE, NONE, 4, 1}});
    }

    private static void nodesOfPlain() {
        DecodeTests x = new DecodeTests(3);
        x.encoding(1, 1, 1, NONE);
        x.kind(2);
        int leaf = NONE;
        tree("plain", x, new int[][] {{2, 1, 8, 8, 0}, {1, 2, 5, 4, 0}, {0, 3, 4, 2, 0}, {leaf, leaf, leaf, 1, 0},
            {leaf, leaf, leaf, 1, 1}, {0, 6, 7, 2, 0}, {leaf, leaf, leaf, 1, 0}, {leaf, leaf, leaf, 1, 1},
            {1, 9, 12, 4, 0}, {0, 10, 11, 2, 0}, {leaf, leaf, leaf, 1, 0}, {leaf, leaf, leaf, 1, 1},
            {0, 13, 14, 2, 0}, {leaf, leaf, leaf, 1, 0}, {leaf, leaf, leaf, 1, 1}});
        x.kind(0);
        tree("worst", x, new int[][] {{0, 1, 2, 8, 0}, {leaf, leaf, leaf, 4, 0}, {leaf, leaf, leaf, 4, 1}});
        DecodeTests full = new DecodeTests(8);
        full.encoding(1, 1, 1, NONE);
        full.kind(2);
        same("the largest tree", full.count(1), 511);
        same("its leaves", full.count(2), 256);
        same("its last node", full.node(510, 4), 1);
    }

    // Promise 7
    private static void nodeRefuses() {
        DecodeTests x = small();
        int nodes = x.count(1);
        int[][] wrong = {{-1, 0}, {nodes, 0}, {nodes + 1, 3}, {0, 5}, {0, -1}, {nodes - 1, 5}, {Integer.MIN_VALUE, 0},
            {Integer.MAX_VALUE, 4}, {0, Integer.MIN_VALUE}, {510, 0}};
        for (int[] w : wrong) {
            CHECK.throwing("node(" + w[0] + ", " + w[1] + ")", INDEX, () -> x.node(w[0], w[1]));
        }
        same("a leaf's list", x.node(nodes - 1, 4), 1);
        DecodeTests y = new DecodeTests(2);
        y.encoding(0, 0, 1, 0);
        same("the top is a leaf", y.node(0, 4), 1);
        y.encoding(1, 1, 1, 0);
        same("and now it is none", y.node(0, 4), 0);
        CHECK.throwing("and lists nothing", INDEX, () -> y.listed(0, 0));
    }

    // Promise 8
    private static void listedOfLeaves() {
        DecodeTests x = new DecodeTests(1);
        CHECK.throwing("a leaf of none", INDEX, () -> x.listed(0, 0));
        x.encoding(0, 0, 1, 5);
        x.encoding(1, 0, 1, 5);
        x.encoding(1, 1, 1, 4);
        x.encoding(0, 0, 1, NONE);
        x.encoding(1, 1, 1, NONE);
        int[] zero = {0, 1, 3};
        int[] one = {0, 2, 3};
        for (int i = 0; i < 3; i++) {
            same("listed(1, " + i + ")", x.listed(1, i), zero[i]);
            same("listed(2, " + i + ")", x.listed(2, i), one[i]);
        }
        int[][] wrong = {{0, 0}, {1, 3}, {2, 3}, {1, -1}, {3, 0}, {-1, 0}, {1, Integer.MAX_VALUE},
            {Integer.MAX_VALUE, 0}, {1, Integer.MIN_VALUE}};
        for (int[] w : wrong) {
            CHECK.throwing("listed(" + w[0] + ", " + w[1] + ")", INDEX, () -> x.listed(w[0], w[1]));
        }
    }

    // Promise 9
    private static void costs() {
        DecodeTests x = new DecodeTests(3);
        for (int kind = 0; kind < 3; kind++) {
            same("a leaf alone", x.cost(kind, 0), 0);
            same("a leaf alone", x.cost(kind, 1), 0);
        }
        x.encoding(1, 1, 1, NONE);
        int[][] due = {{1, 8}, {1, 8}, {3, 24}};
        for (int now = 0; now < 3; now++) {
            x.kind(now);
            x.decode(1, 0);
            for (int kind = 0; kind < 3; kind++) {
                same("cost(" + kind + ", 0)", x.cost(kind, 0), due[kind][0]);
                same("cost(" + kind + ", 1)", x.cost(kind, 1), due[kind][1]);
            }
            same("the kind stays", x.count(10), now);
            same("the rows stay", x.count(8), 1);
        }
        int[][] wrong = {{-1, 0}, {3, 0}, {0, 2}, {0, -1}, {3, 2}, {Integer.MIN_VALUE, Integer.MAX_VALUE}};
        for (int[] w : wrong) {
            CHECK.throwing("cost", ARGUMENT, () -> x.cost(w[0], w[1]));
        }
    }

    /** The best tree at worst is told by the lowest bits, so all its tests may be more than those together. */
    private static void costsOfTies() {
        DecodeTests x = new DecodeTests(3);
        x.encoding(4, 4, 1, NONE);
        x.encoding(6, 2, 1, NONE);
        int[][] due = {{2, 16}, {2, 12}, {2, 12}};
        for (int kind = 0; kind < 3; kind++) {
            same("cost(" + kind + ", 0)", x.cost(kind, 0), due[kind][0]);
            same("cost(" + kind + ", 1)", x.cost(kind, 1), due[kind][1]);
        }
        DecodeTests full = new DecodeTests(8);
        full.encoding(1, 1, 1, NONE);
        same("the dearest", full.cost(2, 0), 8);
        same("the dearest", full.cost(2, 1), 2048);
    }

    // Promise 10
    private static void feeding() {
        DecodeTests x = new DecodeTests(2);
        CHECK.throwing("feed(4)", ARGUMENT, () -> x.feed(4));
        CHECK.throwing("feed(-1)", ARGUMENT, () -> x.feed(-1));
        same("none waits", x.count(6), 0);
        for (int i = 1; i <= 64; i++) {
            same("feed", x.feed(i & 3), i);
        }
        CHECK.throwing("a 65th", UNSUPPORTED, () -> x.feed(0));
        CHECK.throwing("a 65th that is no word", ARGUMENT, () -> x.feed(4));
        same("64 wait", x.count(6), 64);
        x.take(0);
        same("there is room again", x.feed(0), 64);
    }

    // Promise 11
    private static void taking() {
        DecodeTests x = small();
        CHECK.throwing("no word waits", STATE, () -> x.take(0));
        CHECK.throwing("no word waits, wrong flags", ARGUMENT, () -> x.take(256));
        CHECK.throwing("no word waits, wrong flags", ARGUMENT, () -> x.take(-1));
        x.feed(5);
        CHECK.throwing("wrong flags", ARGUMENT, () -> x.take(256));
        same("three are needed", x.take(4), -2);
        same("two are needed", x.take(0), -2);
        x.feed(4);
        same("three are needed", x.take(4), -2);
        same("nothing is gone", x.count(6), 2);
        same("no take is counted", x.count(7), 0);
        same("two go", x.take(0), 1);
        same("none waits", x.count(6), 0);
        x.feed(5);
        x.feed(0);
        x.feed(7);
        x.feed(1);
        x.feed(5);
        same("three go", x.take(255), 0);
        same("two wait", x.count(6), 2);
        same("none fits, one goes", x.take(255), NONE);
        same("one waits", x.count(6), 1);
        same("it is the last", x.take(255), -2);
        same("takes", x.count(7), 3);
    }

    private static void takingKeeps() {
        DecodeTests x = small();
        x.feed(5);
        x.take(4);
        counts("a take that needs more is decoded and kept", x, 3, 0, 1, 3, 1, 0, 1);
        x.take(4);
        counts("and then a hit", x, 3, 1, 1, 3, 1, 0, 1);
        x.decode(5, 4);
        counts("for decode too", x, 3, 2, 1, 3, 1, 0, 1);
        CHECK.throwing("wrong flags", ARGUMENT, () -> x.take(-1));
        counts("wrong flags count nothing", x, 3, 2, 1, 3, 1, 0, 1);
        x.encoding(0, 0, 1, NONE);
        same("the stream stays with a new encoding", x.count(6), 1);
        x.kind(1);
        same("and with a new kind", x.count(6), 1);
    }

    private static void takingInARing() {
        DecodeTests x = new DecodeTests(8);
        for (int i = 0; i < 8; i++) {
            x.encoding(7, i, 1 + (i & 1), NONE);
        }
        int fed = 0;
        int next = 0;
        for (int round = 0; round < 80; round++) {
            if (x.count(6) < 64) {
                x.feed(fed++ & 255);
            }
            if (x.count(6) < 64) {
                x.feed(fed++ & 255);
            }
            if (round > 30) {
                same("take in order", x.take(0), next & 7);
                next += 1 + (next & 1);
            }
            same("those that wait", x.count(6), fed - next);
        }
    }

    // Promise 12
    private static void wholes() {
        DecodeTests x = new DecodeTests(3);
        same("no encodings", x.whole(), false);
        x.encoding(4, 4, 1, NONE);
        same("half of the words", x.whole(), false);
        x.encoding(6, 0, 1, 3);
        same("six words", x.whole(), false);
        x.encoding(7, 2, 1, 3);
        same("seven words", x.whole(), false);
        x.encoding(7, 3, 1, 3);
        same("all, some with conditions", x.whole(), true);
        DecodeTests y = new DecodeTests(1);
        y.encoding(0, 0, 3, 0);
        same("one for all, with a condition", y.whole(), true);
    }

    // Promise 13
    private static boolean cross(int[]... encodings) {
        DecodeTests x = new DecodeTests(4);
        for (int[] e : encodings) {
            x.encoding(e[0], e[1], 1, e.length > 2 ? e[2] : NONE);
        }
        return x.crosses();
    }

    private static void crossings() {
        same("none", cross(), false);
        same("one", cross(new int[] {5, 5}), false);
        same("the same words", cross(new int[] {5, 5}, new int[] {5, 5}), false);
        same("no common word", cross(new int[] {5, 5}, new int[] {6, 0}), false);
        same("one in the other", cross(new int[] {5, 5}, new int[] {7, 7}), false);
        same("the other in the one", cross(new int[] {7, 5}, new int[] {5, 5}), false);
        same("all words", cross(new int[] {0, 0}, new int[] {15, 3}, new int[] {8, 8}), false);
        same("crossing", cross(new int[] {1, 1}, new int[] {2, 2}), true);
        same("crossing with a common bit", cross(new int[] {5, 5}, new int[] {6, 4}), true);
        same("a common bit that differs", cross(new int[] {5, 1}, new int[] {6, 4}), false);
        same("the last two", cross(new int[] {0, 0}, new int[] {8, 0}, new int[] {12, 8}, new int[] {9, 9}), true);
        same("conditions do not matter", cross(new int[] {1, 1, 3}, new int[] {2, 2, 4}), true);
        same("nor that it is never reached", cross(new int[] {0, 0}, new int[] {1, 1}, new int[] {2, 2}), true);
    }

    // Promise 14
    private static void counts() {
        DecodeTests x = small();
        x.kind(1);
        x.decode(5, 4);
        x.decode(5, 4);
        x.decode(0, 4);
        x.feed(0);
        x.feed(0);
        x.feed(6);
        x.take(4);
        counts("all", x, -2, NONE, NONE, 2, 7, 4, 2, 2, 4, 2, 1, 2, 3, 1, NONE, NONE);
        same("count(MIN)", x.count(Integer.MIN_VALUE), NONE);
        same("count(MAX)", x.count(Integer.MAX_VALUE), NONE);
    }
}
