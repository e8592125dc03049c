/** Compares answers with those that are due, counts the wrong ones, and ends a test. */
final class Check {
    interface Call {
        long run();
    }

    private int wrong;
    private int checked;
    private int sentences;
    private String sentence = "";

    /** What is checked from here on is due by this sentence of the document, or part of one. */
    void sentence(String text) {
        sentences++;
        sentence = "\"" + text + "\": ";
    }

    /** What is checked from here on is due by what the document says as a whole. */
    void also(String text) {
        sentence = text + ": ";
    }

    void same(String what, long got, long due) {
        checked++;
        if (got != due) {
            report(what + " answered " + got + ", due is " + due);
        }
    }

    void same(String what, boolean got, boolean due) {
        same(what, got ? 1L : 0L, due ? 1L : 0L);
    }

    /** The very class is asked for: the machine's own exceptions are classes below those of the document. */
    void throwing(String what, Class<?> due, Call call) {
        checked++;
        try {
            long got = call.run();
            report(what + " answered " + got + ", due is " + due.getSimpleName());
        } catch (RuntimeException e) {
            if (e.getClass() != due) {
                report(what + " threw " + e.getClass().getName() + ", due is " + due.getSimpleName());
            }
        }
    }

    void report(String text) {
        wrong++;
        if (wrong <= 40) {
            System.out.println(sentence + text);
        }
    }

    void end(String name) {
        String told = sentences == 0 ? "" : sentences + " sentences or parts, ";
        System.out.println(name + ": " + told + checked + " checked, " + wrong + " wrong");
        if (wrong != 0 || checked == 0) {
            System.exit(1);
        }
    }
}
