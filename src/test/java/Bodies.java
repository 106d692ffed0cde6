import java.util.List;

/** The acts once more, as the Java classes that the document's words say them to be. */
class Bodies {
    int m;
    int k;
    List<Integer> trace;

    static Bodies make(int kind, int m, int k, List<Integer> trace) {
        Bodies b;
        switch (kind) {
            case 0: b = new Bodies(); break;
            case 1: b = new KindBodies(); break;
            case 2: b = new SlyBodies(); break;
            case 3: b = new LateBodies(); break;
            case 4: b = new CodeBodies(); break;
            case 5: b = new ToldBodies(); break;
            default: b = new PairsBodies(); break;
        }
        b.m = m;
        b.k = k;
        b.trace = trace;
        return b;
    }

    int act(int act, int x) {
        return act == 0 ? says(x) : act == 1 ? hides(x) : knows(x);
    }

    int says(int x) {
        trace.add(10);
        return x + m;
    }

    int hides(int x) {
        trace.add(11);
        return says(x) * 2;
    }

    int knows(int x) {
        trace.add(12);
        return hides(x) ^ says(x - k);
    }

    static class KindBodies extends Bodies {
        @Override
        int says(int x) {
            trace.add(20);
            return super.says(x) + k;
        }
    }

    static final class LateBodies extends KindBodies {
        @Override
        int says(int x) {
            trace.add(30);
            return super.says(x + 1);
        }

        @Override
        int knows(int x) {
            trace.add(31);
            return super.knows(x) - m;
        }
    }

    static final class SlyBodies extends Bodies {
        @Override
        int hides(int x) {
            trace.add(40);
            return super.hides(x) * 3;
        }
    }

    static class CodeBodies extends Bodies {
        @Override
        int hides(int x) {
            trace.add(50);
            return -super.hides(x);
        }
    }

    static final class ToldBodies extends CodeBodies {
        @Override
        int hides(int x) {
            trace.add(60);
            return super.hides(x) ^ 5;
        }
    }

    static final class PairsBodies extends Bodies {
        @Override
        int says(int x) {
            trace.add(70);
            return super.says(x) * 2;
        }

        @Override
        int knows(int x) {
            trace.add(71);
            return super.knows(x - k);
        }
    }
}
