import java.util.ArrayDeque;
import java.util.ArrayList;
import java.util.HashMap;
import java.util.List;
import java.util.Map;

/**
 * The document told a second time, as literally as can be: groups of words are written-out lists of words, trees
 * are objects, and nothing is packed into numbers. Slow, and only for tests.
 */
final class Model {
    record Encoding(int mask, int value, int length, int flag) {
        boolean fits(int word) {
            return (word & mask) == value;
        }

        boolean holds(int flags) {
            return flag == -1 || (flags & 1 << flag) != 0;
        }
    }

    static final class Node {
        int bit = -1;
        Node zero;
        Node one;
        List<Integer> words;
        List<Integer> list = List.of();
        int number;
        int worst;
        int total;
    }

    record Kept(int word, int flags, int answer) {
    }

    final int bits;
    final List<Encoding> encodings = new ArrayList<>();
    final Map<Integer, Kept> rows = new HashMap<>();
    final ArrayDeque<Integer> stream = new ArrayDeque<>();
    List<Node> nodes;
    int treeKind;
    int hits;
    int byTree;
    int testsDone;
    int takes;

    Model(int bits) {
        this.bits = (int) (1 + (((long) bits - 1) % 8 + 8) % 8);
        remake();
    }

    private void remake() {
        rows.clear();
        nodes = new ArrayList<>();
        number(tree(treeKind));
    }

    private void number(Node node) {
        node.number = nodes.size();
        nodes.add(node);
        if (node.bit != -1) {
            number(node.zero);
            number(node.one);
        }
    }

    Node tree(int kind) {
        List<Integer> words = new ArrayList<>();
        List<Integer> free = new ArrayList<>();
        for (int word = 0; word < 1 << bits; word++) {
            words.add(word);
        }
        for (int bit = 0; bit < bits; bit++) {
            free.add(bit);
        }
        return best(kind, words, free, new HashMap<>());
    }

    private Node best(int kind, List<Integer> words, List<Integer> free, Map<List<Integer>, Node> known) {
        Node before = known.get(words);
        if (before != null) {
            return copy(before);
        }
        Node best = leafOf(words);
        if (best == null) {
            if (kind == 2) {
                best = split(kind, words, free, free.get(free.size() - 1), known);
            } else {
                for (int bit : free) {
                    Node node = split(kind, words, free, bit, known);
                    if (best == null || price(kind, node) < price(kind, best)) {
                        best = node;
                    }
                }
            }
        }
        known.put(words, best);
        return best;
    }

    /** A node's number is its own, so a tree that is used in two places must be two trees. */
    private static Node copy(Node node) {
        Node copy = new Node();
        copy.bit = node.bit;
        copy.words = node.words;
        copy.list = node.list;
        copy.worst = node.worst;
        copy.total = node.total;
        copy.zero = node.zero == null ? null : copy(node.zero);
        copy.one = node.one == null ? null : copy(node.one);
        return copy;
    }

    private static int price(int kind, Node node) {
        return kind == 0 ? node.worst : node.total;
    }

    private Node leafOf(List<Integer> words) {
        List<Integer> list = listOf(words.get(0));
        for (int word : words) {
            if (!listOf(word).equals(list)) {
                return null;
            }
        }
        Node leaf = new Node();
        leaf.words = words;
        leaf.list = list;
        return leaf;
    }

    private Node split(int kind, List<Integer> words, List<Integer> free, int bit, Map<List<Integer>, Node> known) {
        List<Integer> zeros = new ArrayList<>();
        List<Integer> ones = new ArrayList<>();
        for (int word : words) {
            ((word >> bit & 1) == 0 ? zeros : ones).add(word);
        }
        List<Integer> left = new ArrayList<>(free);
        left.remove(Integer.valueOf(bit));
        Node node = new Node();
        node.bit = bit;
        node.words = words;
        node.zero = best(kind, zeros, left, known);
        node.one = best(kind, ones, left, known);
        node.worst = 1 + Math.max(node.zero.worst, node.one.worst);
        node.total = words.size() + node.zero.total + node.one.total;
        return node;
    }

    List<Integer> listOf(int word) {
        List<Integer> list = new ArrayList<>();
        for (int e = 0; e < encodings.size(); e++) {
            if (encodings.get(e).fits(word)) {
                list.add(e);
                if (encodings.get(e).flag() == -1) {
                    break;
                }
            }
        }
        return list;
    }

    private void needWord(int word) {
        if (word < 0 || word >= 1 << bits) {
            throw new IllegalArgumentException();
        }
    }

    private static void needFlags(int flags) {
        if (flags < 0 || flags > 255) {
            throw new IllegalArgumentException();
        }
    }

    int encoding(int mask, int value, int length, int flag) {
        needWord(mask);
        if ((value | mask) != mask || length < 1 || length > 3 || flag < -1 || flag > 7) {
            throw new IllegalArgumentException();
        }
        if (encodings.size() == 14) {
            throw new UnsupportedOperationException();
        }
        encodings.add(new Encoding(mask, value, length, flag));
        remake();
        return encodings.size() - 1;
    }

    int kind(int kind) {
        if (kind < 0 || kind > 2) {
            throw new IllegalArgumentException();
        }
        int before = treeKind;
        treeKind = kind;
        remake();
        return before;
    }

    int tried(int word, int flags) {
        needWord(word);
        needFlags(flags);
        for (int e : listOf(word)) {
            if (encodings.get(e).holds(flags)) {
                return e;
            }
        }
        return -1;
    }

    int decode(int word, int flags) {
        int answer = tried(word, flags);
        Kept row = rows.get(word & 15);
        if (row != null && row.word() == word && row.flags() == flags) {
            hits++;
            return row.answer();
        }
        byTree++;
        testsDone += tests(word);
        rows.put(word & 15, new Kept(word, flags, answer));
        return answer;
    }

    int tests(int word) {
        needWord(word);
        int tests = 0;
        for (Node node : nodes) {
            if (node.bit != -1 && node.words.contains(word)) {
                tests++;
            }
        }
        return tests;
    }

    int node(int k, int what) {
        if (k < 0 || k >= nodes.size() || what < 0 || what > 4) {
            throw new IndexOutOfBoundsException();
        }
        Node node = nodes.get(k);
        boolean leaf = node.bit == -1;
        int[] answers = {node.bit, leaf ? -1 : node.zero.number, leaf ? -1 : node.one.number, node.words.size(),
            leaf ? node.list.size() : 0};
        return answers[what];
    }

    int listed(int k, int i) {
        if (k < 0 || k >= nodes.size() || i < 0 || i >= nodes.get(k).list.size()) {
            throw new IndexOutOfBoundsException();
        }
        return nodes.get(k).list.get(i);
    }

    int cost(int kind, int what) {
        if (kind < 0 || kind > 2 || what < 0 || what > 1) {
            throw new IllegalArgumentException();
        }
        Node top = tree(kind);
        return what == 0 ? top.worst : top.total;
    }

    int feed(int word) {
        needWord(word);
        if (stream.size() == 64) {
            throw new UnsupportedOperationException();
        }
        stream.add(word);
        return stream.size();
    }

    int take(int flags) {
        needFlags(flags);
        if (stream.isEmpty()) {
            throw new IllegalStateException();
        }
        int answer = decode(stream.peek(), flags);
        int length = answer == -1 ? 1 : encodings.get(answer).length();
        if (stream.size() < length) {
            return -2;
        }
        for (int i = 0; i < length; i++) {
            stream.remove();
        }
        takes++;
        return answer;
    }

    boolean whole() {
        for (int word = 0; word < 1 << bits; word++) {
            if (listOf(word).isEmpty()) {
                return false;
            }
        }
        return true;
    }

    boolean crosses() {
        for (Encoding a : encodings) {
            for (Encoding b : encodings) {
                int both = 0;
                int onlyA = 0;
                int onlyB = 0;
                for (int word = 0; word < 1 << bits; word++) {
                    both += a.fits(word) && b.fits(word) ? 1 : 0;
                    onlyA += a.fits(word) && !b.fits(word) ? 1 : 0;
                    onlyB += !a.fits(word) && b.fits(word) ? 1 : 0;
                }
                if (both > 0 && onlyA > 0 && onlyB > 0) {
                    return true;
                }
            }
        }
        return false;
    }

    int count(int what) {
        int leaves = 0;
        for (Node node : nodes) {
            leaves += node.bit == -1 ? 1 : 0;
        }
        int[] answers = {encodings.size(), nodes.size(), leaves, hits, byTree, testsDone, stream.size(), takes,
            rows.size(), bits, treeKind};
        return what < 0 || what >= answers.length ? -1 : answers[what];
    }
}
