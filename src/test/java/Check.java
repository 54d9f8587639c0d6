/** Counts and prints answers that are not as due. */
final class Check {
    private int wrong = 0;
    private int looked = 0;
    private final String name;

    Check(String name) {
        this.name = name;
    }

    void due(String call, long got, long want) {
        looked++;
        if (got != want) {
            wrong++;
            System.out.println(name + ": " + call + " answered " + got + ", due is " + want);
        }
    }

    void holds(String what, boolean it) {
        looked++;
        if (!it) {
            wrong++;
            System.out.println(name + ": " + what + " does not hold");
        }
    }

    boolean spoiled() {
        return wrong > 0;
    }

    void finish() {
        System.out.println(name + ": " + looked + " looked at, " + wrong + " wrong");
        if (wrong > 0) {
            System.exit(1);
        }
    }

    /** Puts a text on the tape, which is cut to it. */
    static void text(LampWires x, String text) {
        int had = x.count(8);
        for (int i = 0; i < text.length(); i += 8) {
            long v = 0;
            for (int j = i; j < i + 8; j++) {
                v = v << 8 | (j < text.length() ? text.charAt(j) & 255 : ' ');
            }
            x.feed(v);
        }
        x.end(had + text.length());
    }

    static int tell(LampWires x, String text) {
        x.end(0);
        text(x, text);
        return x.program();
    }
}
