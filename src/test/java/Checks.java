/** What the tests share: counts and prints the answers that are not due. */
final class Checks {
    private int wrong = 0;
    private int asked = 0;
    private String about = "";

    void about(String promise) {
        about = promise;
    }

    void due(String call, long want, long got) {
        asked++;
        if (got != want) {
            wrong++;
            if (wrong <= 40) {
                System.out.println(about + ": " + call + " answered " + got + ", due is " + want);
            }
        }
    }

    /** A text in shelf 0 is told, so many items of it. */
    void good(HalfOfItFalse x, String text, int items) {
        write(x, 0, text);
        due("town " + text, items, x.town(0));
        due("fault of " + text, -1, x.fault());
    }

    /** A text in shelf 0 has its fault at a place, and is refused. */
    void bad(HalfOfItFalse x, String text, int fault) {
        write(x, 0, text);
        int refused = x.status(16);
        due("town " + text, -6, x.town(0));
        due("fault of " + text, fault, x.fault());
        due("refused", refused + 1, x.status(16));
    }

    boolean isGood() {
        return wrong == 0;
    }

    void end() {
        System.out.println(asked + " answers, " + wrong + " not as due");
        if (wrong != 0) {
            System.exit(1);
        }
    }

    /** Puts a text into a shelf as a row of letters. */
    static void write(HalfOfItFalse x, int s, String text) {
        x.row(s, 0, text.length());
        for (int i = 0; i < text.length(); i++) {
            x.set(s, i, text.charAt(i));
        }
    }

    static void fill(HalfOfItFalse x, int s, int sort, long... elements) {
        x.row(s, sort, elements.length);
        for (int i = 0; i < elements.length; i++) {
            x.set(s, i, elements[i]);
        }
    }

    /** The worlds (bits) of so many facts in which a fact is so. */
    static long worldsWith(int facts, int fact) {
        long bits = 0;
        for (int w = 0; w < 1 << facts; w++) {
            if ((w >> fact & 1) == 1) {
                bits |= 1L << w;
            }
        }
        return bits;
    }

    /** A town of the kinds with a = 5, and so many facts of harm 1, 2, 3 and so on. */
    static HalfOfItFalse make(int facts, int n, int t, int... kinds) {
        HalfOfItFalse x = new HalfOfItFalse();
        for (int f = 0; f < facts; f++) {
            x.fact(f + 1);
        }
        x.law(n, t);
        for (int kind : kinds) {
            x.speaker(kind, 5);
        }
        return x;
    }
}
