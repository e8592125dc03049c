import java.util.function.Consumer;

/**
 * Two objects with one history. What is refused on one of them, or only looks, must leave no trace: it still answers
 * as the other. Each look at them has a new pair, so that no object comes near its 512th call.
 */
final class Twins {
    private final Check check;
    private final int bits;
    private final Consumer<DecodeTests> history;
    private final Consumer<DecodeTests> calls;
    private DecodeTests one;
    private DecodeTests other;

    Twins(Check check, int bits, Consumer<DecodeTests> history, Consumer<DecodeTests> calls) {
        this.check = check;
        this.bits = bits;
        this.history = history;
        this.calls = calls;
    }

    void stayAlike() {
        newPair();
        countsAlike("at once");
        looksAlike();
        newPair();
        treesAlike();
        newPair();
        rowsAlike();
        newPair();
        streamsAlike();
        newPair();
        nextEncodingsAlike();
    }

    private void newPair() {
        one = new DecodeTests(bits);
        other = new DecodeTests(bits);
        history.accept(one);
        history.accept(other);
        calls.accept(one);
    }

    private void countsAlike(String when) {
        for (int what = 0; what <= 10; what++) {
            check.same("afterwards, " + when + ": count(" + what + ")", one.count(what), other.count(what));
        }
    }

    private void looksAlike() {
        check.same("afterwards: whole()", one.whole(), other.whole());
        check.same("afterwards: crosses()", one.crosses(), other.crosses());
        for (int kind = 0; kind <= 2; kind++) {
            check.same("afterwards: cost(" + kind + ", 0)", one.cost(kind, 0), other.cost(kind, 0));
            check.same("afterwards: cost(" + kind + ", 1)", one.cost(kind, 1), other.cost(kind, 1));
        }
    }

    private void treesAlike() {
        int nodes = Math.min(one.count(1), other.count(1));
        for (int k = 0; k < nodes; k++) {
            for (int what = 0; what <= 4; what++) {
                check.same("afterwards: node(" + k + ", " + what + ")", one.node(k, what),
                    other.node(k, what));
            }
            int listed = Math.min(one.node(k, 4), other.node(k, 4));
            for (int i = 0; i < listed; i++) {
                check.same("afterwards: listed(" + k + ", " + i + ")", one.listed(k, i), other.listed(k, i));
            }
        }
    }

    /** The hits after each decode tell whether the rows hold the same words and flags. */
    private void rowsAlike() {
        for (int word = 0; word < 1 << bits; word++) {
            for (int flags = 0; flags <= 255; flags += 255) {
                String call = "afterwards: decode(" + word + ", " + flags + ")";
                check.same(call, one.decode(word, flags), other.decode(word, flags));
                check.same(call + ", then hits", one.count(3), other.count(3));
            }
        }
        countsAlike("decoded");
    }

    private void streamsAlike() {
        int waiting = Math.min(one.count(6), other.count(6));
        for (int i = 0; i < waiting && Math.min(one.count(6), other.count(6)) > 0; i++) {
            check.same("afterwards: take(255)", one.take(255), other.take(255));
        }
        countsAlike("taken");
    }

    private void nextEncodingsAlike() {
        if (Math.max(one.count(0), other.count(0)) < 14) {
            check.same("afterwards: encoding(1, 1, 1, 3)", one.encoding(1, 1, 1, 3),
                other.encoding(1, 1, 1, 3));
        }
        countsAlike("with one more encoding");
        treesAlike();
    }
}
