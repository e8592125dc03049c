import java.util.Random;

/** Long runs of mixed calls, right and wrong ones, on the class and on the model side by side. */
public final class ModelTest {
    private static final int[] EDGES = {Integer.MIN_VALUE, -257, -9, -2, -1, 0, 1, 2, 3, 7, 8, 9, 13, 14, 15, 16, 63,
        64, 127, 128, 255, 256, 511, 512, 6561, Integer.MAX_VALUE};

    private interface Call {
        long run();
    }

    private final Check check = new Check();
    private final Random random = new Random(20261115L);
    private DecodeTests real;
    private Model model;
    private String run;

    public static void main(String[] args) {
        ModelTest test = new ModelTest();
        for (int width = 1; width <= 8; width++) {
            int runs = width <= 5 ? 120 : width == 6 ? 50 : width == 7 ? 15 : 8;
            for (int i = 0; i < runs; i++) {
                test.oneRun(width, i);
            }
        }
        test.check.end("ModelTest");
    }

    private void oneRun(int width, int number) {
        run = "W " + width + " run " + number;
        real = new DecodeTests(width);
        model = new Model(width);
        int conditionalShare = random.nextInt(5);
        int changes = width >= 7 ? 20 : 6;
        for (int call = 0; call < 430; call++) {
            anyCall(conditionalShare, changes);
        }
        for (int what = -1; what <= 11; what++) {
            int w = what;
            both("count(" + w + ")", () -> real.count(w), () -> model.count(w));
        }
        wholeTree();
    }

    /** By new objects with the same encodings, as many as it needs: an object is good for 512 calls. */
    private void wholeTree() {
        for (int first = 0; first <= model.nodes.size(); first += 40) {
            real = new DecodeTests(model.bits);
            real.kind(model.treeKind);
            for (Model.Encoding e : model.encodings) {
                real.encoding(e.mask(), e.value(), e.length(), e.flag());
            }
            for (int k = first; k < first + 40 && k <= model.nodes.size(); k++) {
                wholeNode(k);
            }
        }
    }

    private void wholeNode(int k) {
        for (int what = 0; what <= 5; what++) {
            int w = what;
            both("node(" + k + ", " + w + ")", () -> real.node(k, w), () -> model.node(k, w));
        }
        for (int i = -1; i <= 4; i++) {
            int p = i;
            both("listed(" + k + ", " + p + ")", () -> real.listed(k, p), () -> model.listed(k, p));
        }
    }

    private void both(String call, Call realCall, Call modelCall) {
        check.same(run + ": " + call, outcome(realCall), outcome(modelCall));
    }

    /** Exceptions by their very class, as numbers that no answer has. */
    private long outcome(Call call) {
        try {
            return call.run();
        } catch (RuntimeException e) {
            Class<?> c = e.getClass();
            return c == IllegalArgumentException.class ? 1L << 40
                : c == UnsupportedOperationException.class ? 2L << 40
                : c == IndexOutOfBoundsException.class ? 3L << 40
                : c == IllegalStateException.class ? 4L << 40
                : 5L << 40;
        }
    }

    private int edge() {
        return EDGES[random.nextInt(EDGES.length)];
    }

    private int pick(int bound) {
        return random.nextInt(25) == 0 ? edge() : random.nextInt(bound);
    }

    private int word() {
        return pick(1 << model.bits);
    }

    private int flags() {
        return random.nextBoolean() ? pick(256) : random.nextInt(2) * 255;
    }

    private void anyCall(int conditionalShare, int changes) {
        int what = random.nextInt(14 + changes);
        if (what == 0) {
            callEncoding(conditionalShare);
        } else if (what == 1 && random.nextInt(2) == 0) {
            int k = pick(3);
            both("kind(" + k + ")", () -> real.kind(k), () -> model.kind(k));
        } else if (what == 2 && random.nextInt(3) == 0) {
            int k = pick(3);
            int w = pick(2);
            both("cost(" + k + ", " + w + ")", () -> real.cost(k, w), () -> model.cost(k, w));
        } else if (what <= 7) {
            callOfWord();
        } else if (what <= 10) {
            callOfStream();
        } else {
            callOfTree();
        }
    }

    private void callEncoding(int conditionalShare) {
        int mask = word() & (random.nextBoolean() ? word() : -1);
        int value = random.nextInt(20) == 0 ? edge() : mask & word();
        int length = random.nextInt(20) == 0 ? edge() : 1 + random.nextInt(3);
        int flag = random.nextInt(20) == 0 ? edge() : random.nextInt(5) < conditionalShare ? random.nextInt(8) : -1;
        both("encoding(" + mask + ", " + value + ", " + length + ", " + flag + ")",
            () -> real.encoding(mask, value, length, flag), () -> model.encoding(mask, value, length, flag));
    }

    private void callOfWord() {
        int word = word();
        int flags = flags();
        switch (random.nextInt(5)) {
            case 0 -> both("tried(" + word + ", " + flags + ")", () -> real.tried(word, flags),
                () -> model.tried(word, flags));
            case 1 -> both("tests(" + word + ")", () -> real.tests(word), () -> model.tests(word));
            default -> both("decode(" + word + ", " + flags + ")", () -> real.decode(word, flags),
                () -> model.decode(word, flags));
        }
    }

    private void callOfStream() {
        int word = word();
        int flags = flags();
        if (random.nextInt(5) < 3) {
            both("feed(" + word + ")", () -> real.feed(word), () -> model.feed(word));
        } else {
            both("take(" + flags + ")", () -> real.take(flags), () -> model.take(flags));
        }
    }

    private void callOfTree() {
        int k = pick(model.nodes.size() + 1);
        int i = pick(6);
        switch (random.nextInt(5)) {
            case 0 -> both("node(" + k + ", " + i + ")", () -> real.node(k, i), () -> model.node(k, i));
            case 1 -> both("listed(" + k + ", " + i + ")", () -> real.listed(k, i), () -> model.listed(k, i));
            case 2 -> both("whole()", () -> real.whole() ? 1 : 0, () -> model.whole() ? 1 : 0);
            case 3 -> both("crosses()", () -> real.crosses() ? 1 : 0, () -> model.crosses() ? 1 : 0);
            default -> {
                int w = pick(12);
                both("count(" + w + ")", () -> real.count(w), () -> model.count(w));
            }
        }
    }
}
