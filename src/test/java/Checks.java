/** What the tests share: counts and prints the answers that are not due. */
final class Checks {
    private int wrong = 0;
    private int asked = 0;
    private String about = "";

    void about(String promise) {
        about = promise;
    }

    void due(String call, long want, long got) {
        asked++;
        if (got != want) {
            wrong++;
            if (wrong <= 40) {
                System.out.println(about + ": " + call + " answered " + got + ", due is " + want);
            }
        }
    }

    boolean isGood() {
        return wrong == 0;
    }

    void end() {
        System.out.println(asked + " answers, " + wrong + " not as due");
        if (wrong != 0) {
            System.exit(1);
        }
    }

    /** Puts a text into a shelf as a row of letters. */
    static void write(HalfOfItFalse x, int s, String text) {
        x.row(s, 0, text.length());
        for (int i = 0; i < text.length(); i++) {
            x.set(s, i, text.charAt(i));
        }
    }

    static void fill(HalfOfItFalse x, int s, int sort, long... elements) {
        x.row(s, sort, elements.length);
        for (int i = 0; i < elements.length; i++) {
            x.set(s, i, elements[i]);
        }
    }

    /** A town of the kinds with a = 5, and so many facts of harm 1, 2, 3 and so on. */
    static HalfOfItFalse make(int facts, int n, int t, int... kinds) {
        HalfOfItFalse x = new HalfOfItFalse();
        for (int f = 0; f < facts; f++) {
            x.fact(f + 1);
        }
        x.law(n, t);
        for (int kind : kinds) {
            x.speaker(kind, 5);
        }
        return x;
    }
}
