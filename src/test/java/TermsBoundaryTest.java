/** The boundary cases of the document's public face and of its 'Terms', sentence by sentence. */
public final class TermsBoundaryTest {
    private static final int NONE = DecodeTests.NONE;
    private static final Class<?> ARGUMENT = IllegalArgumentException.class;
    private static final Class<?> UNSUPPORTED = UnsupportedOperationException.class;
    private static final Class<?> STATE = IllegalStateException.class;

    private static final Check CHECK = new Check();

    public static void main(String[] args) {
        callsUpTo512();
        theConstant();
        wordsOfAllWidths();
        fourteenInOrder();
        bitsOfTheMask();
        lengths();
        everyFlag();
        listsEndAtNoCondition();
        answersOfNone();
        leavesOfOneList();
        worstByTheLowestBit();
        togetherByTheLowestBit();
        bestTreesBelow();
        plainByTheHighestBit();
        numbersOfNodes();
        sixtyFourWait();
        oneGoesWhenNoneFits();
        nothingGoesWhenTooFew();
        rowsByFourBits();
        rowsByWordAndFlags();
        hitsAndTests();
        emptiedByEncoding();
        emptiedByTree();
        firstExceptionTold();
        noWords();
        noFlags();
        CHECK.end("TermsBoundaryTest");
    }

    private static void same(String what, long got, long due) {
        CHECK.same(what, got, due);
    }

    private static void throwing(String what, Class<?> due, Check.Call call) {
        CHECK.throwing(what, due, call);
    }

    /** All words of four bits are decoded, so that all rows are kept. */
    private static DecodeTests withFullRows() {
        DecodeTests x = new DecodeTests(4);
        x.encoding(8, 8, 1, NONE);
        for (int word = 0; word < 16; word++) {
            x.decode(word, 0);
        }
        return x;
    }

    private static void callsUpTo512() {
        CHECK.sentence("An object is used for at most 512 calls after it has been made");
        DecodeTests x = new DecodeTests(8);
        int calls = 0;
        for (int i = 0; i < 14; i++) {
            same("encoding " + i, x.encoding(128, i % 2 * 128, 1, i % 8), i);
            calls++;
        }
        for (int word = 0; calls < 511; word++) {
            int due = word % 256 < 128 ? 0 : 1;
            same("decode as call " + calls, x.decode(word % 256, word % 2 == 0 ? 255 : 3), due);
            calls++;
        }
        same("call 512, all 497 decodes before it are counted", x.count(4), 497);
    }

    private static void theConstant() {
        CHECK.sentence("NONE = -1: Nothing there.");
        same("NONE", DecodeTests.NONE, -1);
    }

    private static void wordsOfAllWidths() {
        CHECK.sentence("WORDS have W bits, 1 to 8.");
        for (int bits = 1; bits <= 8; bits++) {
            DecodeTests x = new DecodeTests(bits);
            int last = (1 << bits) - 1;
            same("the word with all bits as mask and value", x.encoding(last, last, 1, NONE), 0);
            same("the last word", x.tried(last, 0), 0);
            same("the last word", x.decode(last, 0), 0);
            same("the last word", x.tests(last), bits);
            same("the last word", x.feed(last), 1);
            same("the first word", x.tried(0, 0), NONE);
            same("the first word", x.decode(0, 0), NONE);
            same("the first word", x.tests(0), 1);
            same("the first word", x.feed(0), 2);
        }
    }

    private static void fourteenInOrder() {
        CHECK.sentence("ENCODINGS, up to 14, in the order in which they came");
        DecodeTests x = new DecodeTests(2);
        for (int i = 0; i < 14; i++) {
            same("number", x.encoding(0, 0, 1, i % 8), i);
        }
        same("all in one list", x.node(0, 4), 14);
        for (int i = 0; i < 14; i++) {
            same("in order", x.listed(0, i), i);
        }
        for (int flag = 0; flag < 8; flag++) {
            same("the first of those with a flag", x.tried(3, 1 << flag), flag);
        }
    }

    private static void bitsOfTheMask() {
        CHECK.sentence("a word fits when its bits of the mask are those of the value");
        int[][] masksAndValues = {{0, 0}, {15, 0}, {15, 15}, {8, 8}, {8, 0}, {1, 1}, {9, 8}};
        int[] fitting = {16, 1, 1, 8, 8, 8, 4};
        for (int i = 0; i < masksAndValues.length; i++) {
            DecodeTests x = new DecodeTests(4);
            x.encoding(masksAndValues[i][0], masksAndValues[i][1], 1, NONE);
            int seen = 0;
            for (int word = 0; word < 16; word++) {
                boolean fits = true;
                for (int bit = 1; bit < 16; bit *= 2) {
                    fits &= (masksAndValues[i][0] & bit) == 0 || (word & bit) == (masksAndValues[i][1] & bit);
                }
                seen += fits ? 1 : 0;
                same("tried(" + word + ", 0) of pair " + i, x.tried(word, 0), fits ? 0 : NONE);
            }
            same("the words of pair " + i, seen, fitting[i]);
        }
    }

    private static void lengths() {
        CHECK.sentence("a LENGTH 1 .. 3 (how many words it takes together, the first one is that which fits)");
        for (int length = 1; length <= 3; length++) {
            DecodeTests x = new DecodeTests(2);
            x.encoding(3, 3, length, NONE);
            x.feed(3);
            for (int i = 0; i < 4; i++) {
                x.feed(0);
            }
            same("take of length " + length, x.take(0), 0);
            same("those left of five", x.count(6), 5 - length);
            same("the next one does not fit", x.take(0), NONE);
        }
    }

    private static void everyFlag() {
        CHECK.sentence("an encoding with a condition HOLDS when its flag is 1; one without always");
        for (int flag = 0; flag <= 7; flag++) {
            DecodeTests x = new DecodeTests(1);
            x.encoding(1, 1, 1, flag);
            same("flag " + flag + " alone", x.tried(1, 1 << flag), 0);
            same("flag " + flag + " alone", x.decode(1, 1 << flag), 0);
            same("all but flag " + flag, x.tried(1, 255 - (1 << flag)), NONE);
            same("all but flag " + flag, x.decode(1, 255 - (1 << flag)), NONE);
            same("all flags", x.tried(1, 255), 0);
            same("no flags", x.tried(1, 0), NONE);
        }
        DecodeTests y = new DecodeTests(1);
        y.encoding(1, 1, 1, NONE);
        for (int flags = 0; flags <= 255; flags++) {
            same("without condition, flags " + flags, y.decode(1, flags), 0);
        }
    }

    private static void listsEndAtNoCondition() {
        CHECK.sentence("A word's LIST are the encodings that fit, in order, up to and with the first one that has no "
            + "condition.");
        for (int end = 0; end < 14; end++) {
            DecodeTests x = new DecodeTests(1);
            for (int i = 0; i < 14; i++) {
                x.encoding(0, 0, 1, i == end ? NONE : i % 8);
            }
            same("the list ends with encoding " + end, x.node(0, 4), end + 1);
            same("its last one", x.listed(0, end), end);
            same("with no flags", x.tried(0, 0), end);
        }
    }

    private static void answersOfNone() {
        CHECK.sentence("The ANSWER for a word with flags is the first one of its list that holds, or NONE.");
        DecodeTests x = new DecodeTests(2);
        same("no encodings", x.tried(0, 255), NONE);
        same("no encodings", x.decode(0, 255), NONE);
        x.encoding(3, 1, 1, 0);
        x.encoding(3, 1, 1, 7);
        same("the list is empty", x.tried(0, 255), NONE);
        same("the list is empty", x.decode(0, 255), NONE);
        same("none of the list holds", x.tried(1, 126), NONE);
        same("none of the list holds", x.decode(1, 126), NONE);
        same("the last of the list holds", x.tried(1, 128), 1);
        same("the last of the list holds", x.decode(1, 128), 1);
        same("all of the list hold", x.tried(1, 255), 0);
        same("all of the list hold", x.decode(1, 255), 0);
    }

    private static void leavesOfOneList() {
        CHECK.sentence("when all of these have one list it is a leaf, with this list");
        for (int kind = 0; kind <= 2; kind++) {
            DecodeTests x = new DecodeTests(3);
            x.kind(kind);
            same("no encodings, kind " + kind, x.count(1), 1);
            x.encoding(0, 0, 1, 4);
            same("one list of one, kind " + kind, x.count(1), 1);
            x.encoding(0, 0, 1, NONE);
            same("one list of two, kind " + kind, x.count(1), 1);
            x.encoding(7, 7, 1, NONE);
            same("what is never reached is in no list, kind " + kind, x.count(1), 1);
            DecodeTests y = new DecodeTests(1);
            y.kind(kind);
            y.encoding(1, 0, 1, NONE);
            y.encoding(1, 1, 1, NONE);
            same("lists of two encodings are two, however alike, kind " + kind, y.count(1), 3);
            DecodeTests z = new DecodeTests(1);
            z.kind(kind);
            z.encoding(1, 0, 1, 2);
            z.encoding(0, 0, 1, 2);
            same("lists of equal answers but other lengths are two, kind " + kind, z.count(1), 3);
            same("the longer one", z.node(1, 4), 2);
            same("the shorter one", z.node(2, 4), 1);
        }
    }

    private static void worstByTheLowestBit() {
        CHECK.sentence("0 WORST: the one with which the most tests that a word needs below (and at) it are fewest; "
            + "of several the lowest bit");
        DecodeTests tie = new DecodeTests(8);
        tie.encoding(255, 0, 1, NONE);
        same("of eight bits the lowest", tie.node(0, 0), 0);
        same("then of seven", tie.node(1, 0), 1);
        same("the side for 1 is a leaf", tie.node(2 * 8, 0), NONE);
        DecodeTests highest = new DecodeTests(8);
        highest.encoding(128, 128, 1, NONE);
        same("the highest bit when it alone is best", highest.node(0, 0), 7);
        DecodeTests lowest = new DecodeTests(8);
        lowest.encoding(1, 1, 1, NONE);
        same("the lowest bit when it alone is best", lowest.node(0, 0), 0);
        DecodeTests x = new DecodeTests(3);
        x.encoding(4, 4, 1, NONE);
        x.encoding(6, 2, 1, NONE);
        same("two tests by bit 1 as by bit 2, so bit 1, though it needs more together", x.node(0, 0), 1);
    }

    private static void togetherByTheLowestBit() {
        CHECK.sentence("1 TOGETHER: with which the tests of all its words together are fewest; of several the lowest "
            + "bit");
        DecodeTests tie = new DecodeTests(8);
        tie.kind(1);
        tie.encoding(255, 255, 1, NONE);
        same("of eight bits the lowest", tie.node(0, 0), 0);
        same("the side for 0 is a leaf", tie.node(1, 0), NONE);
        same("then of seven", tie.node(2, 0), 1);
        DecodeTests highest = new DecodeTests(8);
        highest.kind(1);
        highest.encoding(128, 0, 1, NONE);
        same("the highest bit when it alone is best", highest.node(0, 0), 7);
        DecodeTests x = new DecodeTests(3);
        x.kind(1);
        x.encoding(4, 4, 1, NONE);
        x.encoding(6, 2, 1, NONE);
        same("12 tests by bit 2, 16 by bit 1, so bit 2, though bit 1 is lower and as good at worst", x.node(0, 0), 2);
    }

    /**
     * Bit 2 says whether bit 1 or bit 0 matters. At the top each bit leaves two sides with several lists, so that
     * only the trees below tell that bit 2 is best.
     */
    private static void bestTreesBelow() {
        CHECK.sentence("each time by the best trees below");
        for (int kind = 0; kind <= 1; kind++) {
            DecodeTests x = new DecodeTests(3);
            x.kind(kind);
            x.encoding(5, 1, 1, NONE);
            x.encoding(6, 6, 1, NONE);
            same("the top of kind " + kind, x.node(0, 0), 2);
            same("its side for 0", x.node(x.node(0, 1), 0), 0);
            same("its side for 1", x.node(x.node(0, 2), 0), 1);
            same("nodes", x.count(1), 7);
            same("at worst", x.cost(kind, 0), 2);
            same("together", x.cost(kind, 1), 16);
        }
    }

    private static void plainByTheHighestBit() {
        CHECK.sentence("2 PLAIN: the highest bit not tested.");
        for (int bits = 1; bits <= 8; bits++) {
            DecodeTests x = new DecodeTests(bits);
            x.kind(2);
            x.encoding(1, 1, 1, NONE);
            for (int depth = 0; depth < bits; depth++) {
                same("the bit after " + depth + " tests of " + bits, x.node(depth, 0), bits - 1 - depth);
            }
            same("then a leaf", x.node(bits, 0), NONE);
            same("with all nodes", x.count(1), (2 << bits) - 1);
        }
    }

    private static void numbersOfNodes() {
        CHECK.sentence("NODES are numbered from 0, the top first, then all of the side for 0, then those of the side "
            + "for 1.");
        DecodeTests x = new DecodeTests(8);
        x.kind(2);
        x.encoding(1, 1, 1, NONE);
        int k = 0;
        for (int depth = 0; depth < 8; depth++) {
            same("the side for 0 follows", x.node(k, 1), k + 1);
            same("the side for 1 comes after all of it", x.node(k, 2), k + (1 << (8 - depth)));
            k = x.node(k, 2);
        }
        same("the last node", k, 510);
        same("is a leaf", x.node(510, 1), NONE);
        same("the first leaf", x.node(8, 2), NONE);
    }

    private static void sixtyFourWait() {
        CHECK.sentence("A STREAM: up to 64 words that wait.");
        DecodeTests x = new DecodeTests(1);
        same("none", x.count(6), 0);
        for (int i = 1; i <= 64; i++) {
            same("word " + i, x.feed(i & 1), i);
        }
        same("full", x.count(6), 64);
        throwing("a 65th", UNSUPPORTED, () -> x.feed(1));
        same("full still", x.count(6), 64);
        for (int i = 63; i >= 0; i--) {
            x.take(0);
            same("one fewer", x.count(6), i);
        }
    }

    private static void oneGoesWhenNoneFits() {
        CHECK.sentence("its answer's length is how many go (one, when there is none)");
        DecodeTests x = new DecodeTests(1);
        x.feed(0);
        same("no encodings, one word", x.take(0), NONE);
        same("it is gone", x.count(6), 0);
        x.encoding(1, 1, 3, 0);
        x.feed(1);
        x.feed(1);
        x.feed(1);
        same("a list of which none holds", x.take(254), NONE);
        same("one is gone, not three", x.count(6), 2);
    }

    private static void nothingGoesWhenTooFew() {
        CHECK.sentence("when there are not so many, nothing goes");
        for (int length = 2; length <= 3; length++) {
            DecodeTests x = new DecodeTests(1);
            x.encoding(0, 0, length, NONE);
            for (int waiting = 1; waiting < length; waiting++) {
                x.feed(1);
                same(waiting + " of " + length, x.take(0), -2);
                same("nothing is gone", x.count(6), waiting);
            }
            x.feed(1);
            same("just so many", x.take(0), 0);
            same("all are gone", x.count(6), 0);
        }
    }

    private static void rowsByFourBits() {
        CHECK.sentence("KEPT ANSWERS: 16 rows by a word's lowest four bits, each with a word, flags and their answer, "
            + "or none.");
        for (int bits = 1; bits <= 8; bits++) {
            DecodeTests x = new DecodeTests(bits);
            same("none at first", x.count(8), 0);
            for (int word = 0; word < 1 << bits && word < 128; word++) {
                x.decode(word, 0);
                same("rows after word " + word, x.count(8), Math.min(word + 1, 16));
            }
        }
        DecodeTests y = new DecodeTests(8);
        y.decode(15, 0);
        y.decode(16, 0);
        same("15 and 16 have two rows", y.count(8), 2);
        y.decode(15, 0);
        y.decode(16, 0);
        same("both are kept", y.count(3), 2);
        y.decode(255, 0);
        same("255 has the row of 15", y.count(8), 2);
        y.decode(16, 0);
        same("not that of 16", y.count(3), 3);
        y.decode(15, 0);
        same("15 is gone from it", y.count(3), 3);
        y.decode(240, 0);
        y.decode(16, 0);
        same("240 has the row of 16, which is gone from it", y.count(3), 3);
    }

    private static void rowsByWordAndFlags() {
        CHECK.sentence("each with a word, flags and their answer");
        DecodeTests x = new DecodeTests(5);
        x.encoding(31, 1, 1, 0);
        same("flags 255", x.decode(1, 255), 0);
        same("flags 254 are others", x.decode(1, 254), NONE);
        same("no hit", x.count(3), 0);
        same("flags 254 again", x.decode(1, 254), NONE);
        same("a hit", x.count(3), 1);
        same("flags 255 are no longer there", x.decode(1, 255), 0);
        same("no hit", x.count(3), 1);
        same("a word of the same row with the same flags", x.decode(17, 255), NONE);
        same("no hit", x.count(3), 1);
        same("the first word", x.decode(1, 255), 0);
        same("no hit", x.count(3), 1);
        same("one row all the time", x.count(8), 1);
    }

    private static void hitsAndTests() {
        CHECK.sentence("Decoding looks there first (a HIT), else it goes down the tree (its tests are counted), and "
            + "keeps what it finds there.");
        DecodeTests x = new DecodeTests(8);
        x.decode(7, 7);
        same("no tests in one leaf", x.count(5), 0);
        same("but by the tree", x.count(4), 1);
        same("an answer NONE is kept", x.count(8), 1);
        x.decode(7, 7);
        same("and hit", x.count(3), 1);
        x.kind(2);
        x.encoding(1, 1, 1, NONE);
        x.decode(7, 7);
        same("the most tests", x.count(5), 8);
        x.decode(7, 7);
        same("a hit needs none", x.count(5), 8);
        same("and is not by the tree", x.count(4), 2);
        same("hits", x.count(3), 2);
    }

    private static void emptiedByEncoding() {
        CHECK.sentence("A new encoding empties all rows.");
        DecodeTests x = withFullRows();
        throwing("a refused one", ARGUMENT, () -> x.encoding(0, 1, 1, NONE));
        same("empties none", x.count(8), 16);
        x.encoding(15, 0, 1, NONE);
        same("all", x.count(8), 0);
        same("the answer is new", x.decode(0, 0), 1);
        same("no hit", x.count(3), 0);
        x.decode(15, 0);
        x.encoding(15, 0, 1, NONE);
        same("one that changes no list too", x.count(8), 0);
    }

    private static void emptiedByTree() {
        CHECK.sentence("A new tree empties all rows.");
        DecodeTests x = withFullRows();
        throwing("a refused kind", ARGUMENT, () -> x.kind(3));
        same("empties none", x.count(8), 16);
        x.cost(2, 1);
        same("nor does the cost of another kind", x.count(8), 16);
        x.kind(1);
        same("all", x.count(8), 0);
        x.decode(0, 0);
        same("no hit", x.count(3), 0);
        x.kind(1);
        same("made anew of the same kind it is new too", x.count(8), 0);
    }

    private static void firstExceptionTold() {
        CHECK.sentence("Of several exceptions the first one told is thrown.");
        DecodeTests x = new DecodeTests(1);
        throwing("take(256) when no word waits", ARGUMENT, () -> x.take(256));
        throwing("take(-1) when no word waits", ARGUMENT, () -> x.take(-1));
        throwing("take(0) when no word waits", STATE, () -> x.take(0));
        for (int i = 0; i < 64; i++) {
            x.feed(0);
        }
        throwing("feed(2) when 64 wait", ARGUMENT, () -> x.feed(2));
        throwing("feed(-1) when 64 wait", ARGUMENT, () -> x.feed(-1));
        throwing("feed(1) when 64 wait", UNSUPPORTED, () -> x.feed(1));
        for (int i = 0; i < 14; i++) {
            x.encoding(1, 1, 1, 0);
        }
        throwing("a wrong mask when there are 14", ARGUMENT, () -> x.encoding(2, 0, 1, NONE));
        throwing("a wrong value when there are 14", ARGUMENT, () -> x.encoding(0, 1, 1, NONE));
        throwing("a wrong length when there are 14", ARGUMENT, () -> x.encoding(1, 1, 0, NONE));
        throwing("a wrong length when there are 14", ARGUMENT, () -> x.encoding(1, 1, 4, NONE));
        throwing("a wrong flag when there are 14", ARGUMENT, () -> x.encoding(1, 1, 1, -2));
        throwing("a wrong flag when there are 14", ARGUMENT, () -> x.encoding(1, 1, 1, 8));
        throwing("nothing wrong but that there are 14", UNSUPPORTED, () -> x.encoding(1, 1, 1, NONE));
    }

    private static void noWords() {
        CHECK.sentence("IllegalArgumentException is also for all words that are not below 2 to the power W, or below "
            + "0");
        for (int bits = 1; bits <= 8; bits++) {
            DecodeTests x = new DecodeTests(bits);
            int[] wrong = {1 << bits, (1 << bits) + 1, 256, 1 << 30, Integer.MAX_VALUE, -1, -(1 << bits),
                Integer.MIN_VALUE};
            for (int word : wrong) {
                throwing("tried(" + word + ", 0) of " + bits + " bits", ARGUMENT, () -> x.tried(word, 0));
                throwing("decode(" + word + ", 0) of " + bits + " bits", ARGUMENT, () -> x.decode(word, 0));
                throwing("tests(" + word + ") of " + bits + " bits", ARGUMENT, () -> x.tests(word));
                throwing("feed(" + word + ") of " + bits + " bits", ARGUMENT, () -> x.feed(word));
                throwing("encoding(" + word + ", 0, 1, -1)", ARGUMENT, () -> x.encoding(word, 0, 1, NONE));
            }
        }
    }

    private static void noFlags() {
        CHECK.sentence("IllegalArgumentException is also for flags that are not 0 .. 255.");
        DecodeTests x = new DecodeTests(8);
        x.feed(0);
        for (int flags : new int[] {256, 257, 1 << 30, Integer.MAX_VALUE, -1, -256, Integer.MIN_VALUE}) {
            throwing("tried(0, " + flags + ")", ARGUMENT, () -> x.tried(0, flags));
            throwing("decode(0, " + flags + ")", ARGUMENT, () -> x.decode(0, flags));
            throwing("take(" + flags + ")", ARGUMENT, () -> x.take(flags));
        }
        same("flags 0", x.tried(0, 0), NONE);
        same("flags 255", x.tried(0, 255), NONE);
        same("flags 0", x.decode(0, 0), NONE);
        same("flags 255", x.decode(0, 255), NONE);
        same("flags 255", x.take(255), NONE);
        x.feed(0);
        same("flags 0", x.take(0), NONE);
    }
}
