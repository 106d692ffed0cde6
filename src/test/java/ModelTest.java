import java.util.ArrayList;
import java.util.List;
import java.util.Random;

/** Long runs of calls, each answered by the class and by PlainTown. */
public final class ModelTest {
    private static final Checks CHECKS = new Checks();
    /** An object is used for at most 512 calls; the dearest round and the last look need some. */
    private static final int LAST_ROUND_BEGINS = 380;
    private static final int MOST_CALLS = 512;

    private int calls = 1;
    private final Random dice;
    private final HalfOfItFalse x = new HalfOfItFalse();
    private PlainTown town = new PlainTown();
    private PlainTown image = null;
    /** Null: nothing; an Integer: a speaker; a long[]: a row, its sort beside it. */
    private final Object[] shelves = new Object[8];
    private final int[] sorts = new int[8];
    private final int[] refused = new int[8];
    private int fault = -1;
    private List<Integer> trace = new ArrayList<>();

    private ModelTest(int run) {
        dice = new Random(run);
    }

    public static void main(String[] args) {
        for (int run = 0; run < 3000 && CHECKS.isGood(); run++) {
            CHECKS.about("run " + run);
            new ModelTest(run).goThrough();
        }
        CHECKS.end();
    }

    private void due(String call, long want, long got) {
        calls++;
        CHECKS.due(call, want, got);
    }

    private int no(int number) {
        refused[-number]++;
        return number;
    }

    /** One of the numbers that there are, now and then one beside them. */
    private int some(int count) {
        return dice.nextInt(25) == 0 ? dice.nextInt(count + 4) - 2 : dice.nextInt(Math.max(1, count));
    }

    private int someSpeaker() {
        return some(town.speakers.size());
    }

    private int someFact() {
        return some(town.harms.size());
    }

    private void goThrough() {
        start();
        while (calls < LAST_ROUND_BEGINS && CHECKS.isGood()) {
            oneCall(dice.nextInt(46));
            if (dice.nextInt(3) == 0) {
                say();
            }
            due("many", town.worlds().size(), x.many());
        }
        checkStatus();
        CHECKS.due("no more calls than are promised", 1, calls <= MOST_CALLS ? 1 : 0);
    }

    private void start() {
        for (int i = dice.nextInt(5); i > 0; i--) {
            fact();
        }
        if (dice.nextBoolean()) {
            law();
        }
        for (int i = dice.nextInt(7); i > 0; i--) {
            speaker();
        }
        for (int i = dice.nextInt(4) == 0 ? 60 : 0; i > 0; i--) {
            say();
        }
    }

    private void checkStatus() {
        due("facts", town.harms.size(), x.status(0));
        due("speakers", town.speakers.size(), x.status(1));
        due("sayings", town.sayings.size(), x.status(2));
        due("left", town.left.size(), x.status(3));
        due("n", town.n, x.status(4));
        due("t", town.t, x.status(5));
        due("days", town.days, x.status(6));
        due("seed", town.seed, x.status(7));
        due("ran", trace.size(), x.status(8));
        for (int i = 1; i < 8; i++) {
            due("refused " + i, refused[i], x.status(10 + i));
        }
        due("fault", fault, x.fault());
        due("many", town.worlds().size(), x.many());
    }

    private void oneCall(int call) {
        int s = someSpeaker();
        int f = someFact();
        switch (call) {
            case 0: row(); break;
            case 1: set(); break;
            case 2: copy(); break;
            case 3: element(); break;
            case 4: show(); break;
            case 5: holds(); break;
            case 6: says(); break;
            case 7: fact(); break;
            case 8: speaker(); break;
            case 9: law(); break;
            case 10: speakerOf(); break;
            case 11: harm(); break;
            case 12: say(); break;
            case 13: unsay(); break;
            case 14: sayingOf(); break;
            case 15: known(); break;
            case 16: readTown(); break;
            case 17: canBe(s); break;
            case 18: can(s, f); break;
            case 19: worlds(); break;
            case 20: sures(f); break;
            case 21: shown(f); break;
            case 22: proof(f); break;
            case 23: worst(s, f); break;
            case 24: due("next", town.next() < 0 ? no(-5) : town.next(), x.next()); break;
            case 25: knows(f); break;
            case 26: tree(f); break;
            case 27: rows(s); break;
            case 28: tells(s); break;
            case 29: errands(); break;
            case 30: trust(s); break;
            case 31: due("witness", town.witness() < 0 ? no(-5) : town.witness(), x.witness()); break;
            case 32: judge(); break;
            case 33: sunset(); break;
            case 34: draw(); break;
            case 35: case 36: case 37: case 38: ask(s, f); break;
            case 39: truly(); break;
            case 40: seed(); break;
            case 41: act(s); break;
            case 42: image(); break;
            case 43: restore(); break;
            case 44: for (int i = 0; i < 6; i++) { say(); } break;
            default: for (int i = 0; i < 6; i++) { ask(someSpeaker(), someFact()); } break;
        }
    }

    // Shelves.

    private boolean isShelf(int s) {
        return s >= 0 && s < 8;
    }

    /** The refusal of a call that wants a row, or 0. */
    private int noRow(int s) {
        if (!isShelf(s)) {
            return -1;
        }
        return shelves[s] instanceof Integer ? -2 : shelves[s] == null ? -3 : 0;
    }

    private static long cut(long v, int sort) {
        return sort == 0 ? (byte) v : sort == 1 ? (short) v : sort == 2 ? (int) v : v;
    }

    private void row() {
        int s = some(8);
        int sort = some(4);
        int n = dice.nextInt(30) == 0 ? -1 : dice.nextInt(30) == 0 ? 161 : dice.nextInt(14);
        int want = !isShelf(s) ? -1 : n < 0 ? -4 : sort < 0 || sort > 3 ? -6 : n > 160 ? -7 : 1;
        if (want == 1) {
            shelves[s] = new long[n];
            sorts[s] = sort;
        } else {
            no(want);
        }
        due("row", want, x.row(s, sort, n));
        for (int i = 0; want == 1 && i < n; i++) {
            put(s, i, dice.nextInt(3) == 0 ? dice.nextInt(700) - 20 : 100 * dice.nextInt(6)
                    + 10 * dice.nextInt(5) + dice.nextInt(2) + (long) dice.nextInt(2) * (1L << 32));
        }
    }

    private void put(int s, int i, long v) {
        int no = noRow(s);
        long[] row = no == 0 ? (long[]) shelves[s] : null;
        if (no == 0 && (i < 0 || i >= row.length)) {
            no = -5;
        }
        if (no == 0) {
            row[i] = cut(v, sorts[s]);
        }
        due("set " + s + " " + i, no == 0 ? 1 : no(no), x.set(s, i, v));
    }

    private void set() {
        put(some(8), dice.nextInt(14) - 1, dice.nextBoolean() ? dice.nextLong() : dice.nextInt(8) - 1);
    }

    private void copy() {
        int p = some(8);
        int q = some(8);
        int i = dice.nextInt(5) - 1;
        int j = dice.nextInt(5) - 1;
        int n = dice.nextInt(9) - 1;
        due("copy", copied(p, q, i, j, n), x.copy(p, q, i, j, n));
    }

    private int copied(int p, int q, int i, int j, int n) {
        if (!isShelf(p) || !isShelf(q)) {
            return no(-1);
        }
        boolean both = shelves[p] != null && shelves[q] != null;
        if (noRow(p) == -2 || noRow(q) == -2 || both && sorts[p] != sorts[q]) {
            return no(-2);
        }
        if (!both) {
            return no(-3);
        }
        if (n < 0) {
            return no(-4);
        }
        long[] from = ((long[]) shelves[p]).clone();
        long[] to = (long[]) shelves[q];
        if (i < 0 || j < 0 || i + n > from.length || j + n > to.length) {
            return no(-5);
        }
        for (int e = 0; e < n; e++) {
            to[j + e] = from[i + e];
        }
        return 1;
    }

    private void element() {
        int s = some(8);
        for (int i = -1; i < 15; i++) {
            boolean there = noRow(s) == 0 && i >= 0 && i < ((long[]) shelves[s]).length;
            due("element", there ? ((long[]) shelves[s])[i] : 0, x.element(s, i));
        }
    }

    private void show() {
        int s = some(8);
        int speaker = someSpeaker();
        if (!isShelf(s) || speaker != -1 && !town.isSpeaker(speaker)) {
            due("show", no(-1), x.show(s, speaker));
            return;
        }
        shelves[s] = speaker == -1 ? null : (Object) speaker;
        due("show", speaker == -1 ? 0 : 1, x.show(s, speaker));
    }

    private void holds() {
        for (int s = -1; s < 9; s++) {
            int want = !isShelf(s) || shelves[s] == null ? -1
                    : shelves[s] instanceof Integer ? (Integer) shelves[s] : 100 + sorts[s];
            due("holds", want, x.holds(s));
        }
    }

    private void says() {
        for (int kind = -1; kind < 8; kind++) {
            int s = some(8);
            due("says", saysOf(s, kind), x.says(s, kind));
        }
    }

    private int saysOf(int s, int kind) {
        if (!isShelf(s) || kind < 0 || kind > 6) {
            return no(-1);
        }
        if (shelves[s] instanceof long[]) {
            return no(-2);
        }
        if (shelves[s] == null) {
            return no(-3);
        }
        int speaker = (Integer) shelves[s];
        int is = town.speakers.get(speaker)[0];
        if (kind != 0 && kind != is && !(kind == 1 && is == 3) && !(kind == 4 && is == 5)) {
            return no(-2);
        }
        int count = town.count(speaker);
        if (kind == 0 || kind == 6) {
            return kind == 0 ? count : count / 2;
        }
        return town.must(is, town.speakers.get(speaker)[1], count) ? 1 : 0;
    }

    // The town.

    private void fact() {
        int harm = some(100);
        if (harm < 0 || harm > 99) {
            due("fact", no(-6), x.fact(harm));
        } else if (town.harms.size() == 6) {
            due("fact", no(-7), x.fact(harm));
        } else if (town.harms.size() < 5 || dice.nextInt(3) == 0) {
            town.addFact(harm);
            due("fact", town.harms.size() - 1, x.fact(harm));
        }
    }

    private void speaker() {
        int kind = some(7);
        int a = some(1024);
        if (kind < 0 || kind > 6) {
            due("speaker", no(-1), x.speaker(kind, a));
        } else if (a < 0 || a > 1023) {
            due("speaker", no(-6), x.speaker(kind, a));
        } else if (town.speakers.size() == 6) {
            due("speaker", no(-7), x.speaker(kind, a));
        } else {
            town.speakers.add(new int[] {kind, a});
            due("speaker", town.speakers.size() - 1, x.speaker(kind, a));
        }
    }

    private void law() {
        int n = dice.nextInt(12) + 1;
        int t = dice.nextInt(n + 2) - (dice.nextInt(5) == 0 ? 1 : 0);
        if (n < 2 || n > 10 || t < 0 || t > n || !town.sayings.isEmpty()) {
            due("law", no(-6), x.law(n, t));
            return;
        }
        due("law", 100 * town.n + town.t, x.law(n, t));
        town.n = n;
        town.t = t;
    }

    private void speakerOf() {
        int s = someSpeaker();
        for (int what = -1; what < 4; what++) {
            int want = !town.isSpeaker(s) || what < 0 || what > 2 ? no(-5)
                    : what == 2 ? town.count(s) : town.speakers.get(s)[what];
            due("speakerOf", want, x.speakerOf(s, what));
        }
    }

    private void harm() {
        int f = someFact();
        int v = some(100);
        int want = !town.isFact(f) ? no(-1) : v < 0 || v > 99 ? no(-6) : town.harms.get(f);
        due("harm", want, x.harm(f, v));
        if (want >= 0) {
            town.harms.set(f, v);
        }
    }

    private void say() {
        int s = someSpeaker();
        int f = someFact();
        boolean so = dice.nextBoolean();
        int want;
        if (!town.isSpeaker(s) || !town.isFact(f)) {
            want = no(-1);
        } else if (town.isFull(s) || town.after(s, f, so).isEmpty()) {
            want = no(-6);
        } else if (town.sayings.size() == 24) {
            want = no(-7);
        } else {
            town.put(s, f, so);
            want = town.worlds().size();
        }
        due("say " + s + " " + f + " " + so, want, x.say(s, f, so));
    }

    private void unsay() {
        int size = town.sayings.size();
        if (size > 0) {
            town.sayings.remove(size - 1);
        }
        due("unsay", size == 0 ? no(-6) : size - 1, x.unsay());
    }

    private void sayingOf() {
        for (int i = -1; i < 26; i++) {
            int want = -1;
            if (i >= 0 && i < town.sayings.size()) {
                PlainTown.Saying y = town.sayings.get(i);
                want = 100 * y.s + 10 * y.f + (y.so ? 1 : 0);
            }
            due("sayingOf", want, x.sayingOf(i));
        }
    }

    private void known() {
        int f = someFact();
        boolean so = dice.nextBoolean();
        if (dice.nextInt(4) != 0 && town.left.size() <= 4) {
            return;
        }
        int want = !town.isFact(f) ? no(-1) : !town.know(f, so) ? no(-6) : town.left.size();
        due("known", want, x.known(f, so));
    }

    private void readTown() {
        StringBuilder text = new StringBuilder();
        for (int i = dice.nextInt(5); i >= 0; i--) {
            text.append(someItem()).append(i > 0 ? ";" : "");
        }
        if (dice.nextInt(3) == 0 && text.length() > 0) {
            String letters = "factmnlwsyko 0123456789;";
            int place = dice.nextInt(text.length());
            switch (dice.nextInt(3)) {
                case 0: text.setLength(place); break;
                case 1: text.setCharAt(place, letters.charAt(dice.nextInt(24))); break;
                default: text.insert(place, letters.charAt(dice.nextInt(24))); break;
            }
        }
        int s = some(8);
        if (isShelf(s)) {
            Checks.write(x, s, text.toString());
            calls += 1 + text.length();
            long[] row = new long[text.length()];
            for (int i = 0; i < row.length; i++) {
                row[i] = text.charAt(i);
            }
            shelves[s] = row;
            sorts[s] = 0;
        }
        int want = isShelf(s) ? 0 : no(-1);
        if (want == 0) {
            PlainTown then = town.copyOf();
            fault = then.read(text.toString());
            want = fault == -1 ? then.items : no(-6);
            town = fault == -1 ? then : town;
        }
        due("town " + text, want, x.town(s));
        due("fault of " + text, fault, x.fault());
    }

    private String someItem() {
        switch (dice.nextInt(12)) {
            case 0: return "fact " + some(100);
            case 1: return "man " + some(7) + " " + some(1024);
            case 2: return "law " + (2 + dice.nextInt(9)) + " " + dice.nextInt(5);
            case 3: return "known " + someFact() + " " + dice.nextInt(2);
            default: return "says " + someSpeaker() + " " + someFact() + " " + dice.nextInt(2);
        }
    }

    // What may be said.

    private void canBe(int s) {
        int w = some(town.allWorlds());
        int want = !town.isSpeaker(s) || w < 0 || w >= town.allWorlds() ? no(-1)
                : town.canBe(s, w, town.sayings) ? 1 : 0;
        due("canBe", want, x.canBe(s, w));
    }

    private void can(int s, int f) {
        for (int what = -1; what < 5; what++) {
            int want = !town.isSpeaker(s) || !town.isFact(f) ? no(-1)
                    : what < 0 || what > 3 ? no(-5) : town.can(s, f, what);
            due("can " + what, want, x.can(s, f, what));
        }
    }

    private void worlds() {
        long bits = 0;
        for (int w : town.worlds()) {
            bits |= 1L << w;
        }
        due("worlds", bits, x.worlds());
    }

    private void sures(int f) {
        int want = town.isFact(f) ? town.sure(town.worlds(), f) : no(-1) - 10;
        due("sure", want, x.sure(f));
        int bits = 0;
        for (int i = 0; i < town.harms.size(); i++) {
            bits |= town.sure(town.worlds(), i) >= 0 ? 1 << i : 0;
        }
        due("sures", bits, x.sures());
    }

    private void shown(int f) {
        int want = -1;
        if (!town.isFact(f)) {
            want = no(-1);
        } else if (town.sure(town.worlds(), f) < 0) {
            want = no(-5);
        } else {
            do {
                want++;
            } while (town.sure(town.worlds(town.sayings.subList(0, want)), f) < 0);
        }
        due("shown", want, x.shown(f));
    }

    private void proof(int f) {
        int want = !town.isFact(f) ? no(-1) : town.sure(town.worlds(), f) < 0 ? no(-5)
                : town.sayings.size() > 10 ? no(-7) : town.proof(f);
        due("proof", want, x.proof(f));
    }

    private void worst(int s, int f) {
        int want = !town.isSpeaker(s) || !town.isFact(f) ? no(-1) : town.isFull(s) ? no(-6)
                : town.worst(s, f);
        due("worst", want, x.worst(s, f));
    }

    private void knows(int f) {
        int k = dice.nextInt(town.harms.size() > 3 ? 2 : 5) - 1;
        int want = !town.isFact(f) ? no(-1) : k < 0 || k > 2 ? no(-6) : town.knows(f, k) ? 1 : 0;
        due("knows " + k, want, x.knows(f, k));
    }

    private void tree(int f) {
        if (town.harms.size() > 3) {
            return;
        }
        int want = -1;
        if (!town.isFact(f)) {
            want = no(-1) - 10;
        } else {
            want = town.knows(f, 0) ? 0 : town.knows(f, 1) ? 1 : town.knows(f, 2) ? 2 : -1;
        }
        due("tree", want, x.tree(f));
    }

    private void rows(int s) {
        int m = dice.nextInt(town.n + 3) - 1;
        due("rows", !town.isSpeaker(s) ? no(-1) : m < 0 || m > town.n ? no(-6) : town.rows(s, m),
                x.rows(s, m));
    }

    private void tells(int s) {
        int messages = dice.nextInt(3) == 0 ? dice.nextInt(300) : dice.nextInt(12);
        int want = -1;
        if (!town.isSpeaker(s)) {
            want = no(-1) - 10;
        } else if (messages < 1) {
            want = no(-6) - 10;
        } else {
            for (int m = town.n; m >= 0; m--) {
                want = town.rows(s, m) >= messages ? m : want;
            }
        }
        due("tells", want, x.tells(s, messages));
    }

    private void errands() {
        int s = some(8);
        int a = some(11);
        int no = noRow(s);
        if (no == 0 && (((long[]) shelves[s]).length > 10 || a < 0 || a > 10)) {
            no = -6;
        }
        int[] want = no == 0 ? town.errands((long[]) shelves[s], a) : new int[] {no(no), no(no)};
        due("errands", want[0], x.errands(s, a));
        due("placed", want[1], x.placed(s, a));
    }

    private void trust(int s) {
        int want = !town.isSpeaker(s) ? no(-1) - 1000000 : town.isFull(s) ? no(-6) - 1000000
                : town.trust(s);
        due("trust", want, x.trust(s));
    }

    // Days.

    private void judge() {
        int s = some(8);
        int n = dice.nextInt(10) == 0 ? dice.nextInt(40) - 2 : dice.nextInt(8);
        int want = noRow(s);
        if (want == 0) {
            long[] row = (long[]) shelves[s];
            want = n < 0 ? -4 : n > row.length ? -5 : n > 24 ? -6 : 0;
        }
        want = want == 0 ? town.judge((long[]) shelves[s], n) : no(want);
        due("judge", want, x.judge(s, n));
    }

    private void sunset() {
        town.left = town.worlds();
        town.sayings.clear();
        town.days++;
        due("sunset", town.left.size(), x.sunset());
    }

    private void draw() {
        List<Integer> worlds = new ArrayList<>(town.worlds());
        town.drawn = worlds.get(town.drawBelow(worlds.size()));
        due("draw", worlds.size(), x.draw());
    }

    private void ask(int s, int f) {
        int want;
        if (!town.isSpeaker(s) || !town.isFact(f)) {
            want = no(-1);
        } else if (town.isFull(s) || town.drawn < 0) {
            want = no(-6);
        } else {
            want = town.ask(s, f);
            if (want < 0) {
                no(want);
            }
        }
        due("ask " + s + " " + f, want, x.ask(s, f));
    }

    private void truly() {
        int w = dice.nextBoolean() ? some(town.allWorlds()) : town.drawn;
        int want = w < 0 || w >= town.allWorlds() ? no(-1) : town.drawn < 0 ? no(-6)
                : w == town.drawn ? 1 : 0;
        due("truly", want, x.truly(w));
    }

    private void seed() {
        int v = dice.nextInt();
        due("seed", town.seed, x.seed(v));
        town.seed = v;
    }

    private void act(int s) {
        int act = dice.nextInt(5) - 1;
        int v = dice.nextInt();
        trace = new ArrayList<>();
        int want = 0;
        if (town.isSpeaker(s) && act >= 0 && act < 3) {
            int[] who = town.speakers.get(s);
            want = Bodies.make(who[0], s, who[1], trace).act(act, v);
        }
        due("act " + act, want, x.act(s, act, v));
        for (int i = -1; i < 22; i++) {
            due("trace", i >= 0 && i < trace.size() ? trace.get(i) : -1, x.trace(i));
        }
    }

    private void image() {
        image = town.copyOf();
        due("image", town.sayings.size(), x.image());
    }

    private void restore() {
        if (image == null) {
            due("restore", no(-6), x.restore());
            return;
        }
        town = image.copyOf();
        for (int s = 0; s < 8; s++) {
            if (shelves[s] instanceof Integer && (Integer) shelves[s] >= town.speakers.size()) {
                shelves[s] = null;
            }
        }
        due("restore", town.sayings.size(), x.restore());
    }
}
