import java.util.ArrayList;
import java.util.List;

/** Two objects made alike; a call is made on one of them, and they are told apart, or not. */
final class Twins {
    interface Maker {
        HalfOfItFalse make();
    }

    interface Call {
        long on(HalfOfItFalse x);
    }

    private final Checks checks;
    private final Maker maker;

    Twins(Checks checks, Maker maker) {
        this.checks = checks;
        this.maker = maker;
    }

    /** The call is refused: it is counted by its number, and nothing else changes. */
    void refused(String name, int number, Call call) {
        refused(name, number, number, call);
    }

    /** Some calls answer another number than the one that they are counted as. */
    void refused(String name, int number, long answer, Call call) {
        compare(name, -number, answer, call);
    }

    /** The call changes nothing, and isn't refused either. */
    void unchanged(String name, long answer, Call call) {
        compare(name, 0, answer, call);
    }

    private void compare(String name, int counted, long answer, Call call) {
        HalfOfItFalse untouched = maker.make();
        HalfOfItFalse called = maker.make();
        checks.due(name, answer, call.on(called));
        for (int r = 1; r <= 7; r++) {
            checks.due(name + ", then refusals -" + r,
                    untouched.status(10 + r) + (r == counted ? 1 : 0), called.status(10 + r));
        }
        List<Long> want = view(untouched);
        List<Long> got = view(called);
        for (int i = 0; i < want.size(); i++) {
            checks.due(name + ", then answer " + i + " of the view", want.get(i), got.get(i));
        }
    }

    /** All that can be seen of an object, by some 200 calls; the last of them change it. */
    private static List<Long> view(HalfOfItFalse x) {
        List<Long> seen = new ArrayList<>();
        viewTown(x, seen);
        for (int i = 0; i <= 20; i++) {
            seen.add((long) x.trace(i));
        }
        seen.add((long) x.fault());
        viewShelves(x, seen);
        for (int w = 0; w < 8; w++) {
            seen.add((long) x.truly(w));
        }
        for (int f = 0; f < 6; f++) {
            seen.add((long) x.harm(f, 0));
        }
        seen.add((long) x.draw());
        seen.add((long) x.status(7));
        seen.add((long) x.unsay());
        seen.add((long) x.restore());
        viewTown(x, seen);
        for (int s = 0; s < 8; s++) {
            seen.add((long) x.holds(s));
        }
        return seen;
    }

    private static void viewTown(HalfOfItFalse x, List<Long> seen) {
        for (int what = 0; what <= 8; what++) {
            seen.add((long) x.status(what));
        }
        seen.add(x.worlds());
        for (int i = 0; i <= 24; i++) {
            seen.add((long) x.sayingOf(i));
        }
        for (int s = 0; s < 6; s++) {
            seen.add((long) x.speakerOf(s, 0));
            seen.add((long) x.speakerOf(s, 1));
            seen.add((long) x.speakerOf(s, 2));
        }
    }

    private static void viewShelves(HalfOfItFalse x, List<Long> seen) {
        for (int s = 0; s < 8; s++) {
            seen.add((long) x.holds(s));
            for (int i = 0; i < 5; i++) {
                seen.add(x.element(s, i));
            }
        }
    }
}
