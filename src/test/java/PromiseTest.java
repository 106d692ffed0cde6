/** Each promise by hand: ordinary inputs, the edges that the document names, wrong inputs. */
public final class PromiseTest {
    private static final Checks C = new Checks();
    private static final int BIG = Integer.MAX_VALUE;
    private static final int SMALL = Integer.MIN_VALUE;

    public static void main(String[] args) {
        newObject();
        rowsOnShelves();
        copies();
        shows();
        saysOfShelves();
        facts();
        speakers();
        laws();
        sayings();
        knowns();
        kinds();
        cans();
        sures();
        proofs();
        questions();
        knowing();
        rowsAndTells();
        errands();
        trusts();
        witnesses();
        judges();
        sunsets();
        draws();
        asks();
        acts();
        images();
        statuses();
        C.end();
    }

    private static void due(String call, long want, long got) {
        C.due(call, want, got);
    }

    private static void newObject() {
        C.about("1 new object");
        HalfOfItFalse x = new HalfOfItFalse();
        due("NONE", -1, HalfOfItFalse.NONE);
        int[] status = {0, 0, 0, 1, 4, 2, 0, 1, 0};
        for (int i = 0; i < status.length; i++) {
            due("status " + i, status[i], x.status(i));
        }
        for (int i = 11; i <= 17; i++) {
            due("status " + i, 0, x.status(i));
        }
        due("worlds", 1, x.worlds());
        due("many", 1, x.many());
        due("fault", -1, x.fault());
        due("trace", -1, x.trace(0));
        for (int s = 0; s < 8; s++) {
            due("holds", -1, x.holds(s));
        }
        due("truly", -6, x.truly(0));
        due("restore", -6, x.restore());
        due("next", -5, x.next());
        due("witness", -5, x.witness());
        due("unsay", -6, x.unsay());
    }

    private static void rowsOnShelves() {
        C.about("2, 3, 5, 7 rows");
        HalfOfItFalse x = new HalfOfItFalse();
        due("row", 1, x.row(0, 0, 3));
        due("holds", 100, x.holds(0));
        due("row", 1, x.row(7, 3, 160));
        due("holds", 103, x.holds(7));
        due("row", -1, x.row(8, 9, -1));
        due("row", -1, x.row(-1, 0, 0));
        due("row", -4, x.row(0, 9, -1));
        due("row", -6, x.row(0, 4, 161));
        due("row", -6, x.row(0, -1, 0));
        due("row", -7, x.row(0, 0, 161));
        due("row", -7, x.row(0, 0, BIG));
        due("row", -4, x.row(0, 0, SMALL));
        due("status", 2, x.status(11));
        due("status", 2, x.status(14));
        due("status", 2, x.status(16));
        due("status", 2, x.status(17));
        due("row", 1, x.row(1, 1, 2));
        due("row", 1, x.row(2, 2, 2));
        due("row", 1, x.row(3, 0, 0));
        due("set", 1, x.set(0, 0, 200));
        due("element", -56, x.element(0, 0));
        due("set", 1, x.set(1, 1, 70000));
        due("element", 4464, x.element(1, 1));
        due("set", 1, x.set(2, 0, 1L << 31));
        due("element", -(1L << 31), x.element(2, 0));
        due("set", 1, x.set(2, 1, (1L << 32) + 7));
        due("element", 7, x.element(2, 1));
        due("set", 1, x.set(7, 159, Long.MIN_VALUE));
        due("element", Long.MIN_VALUE, x.element(7, 159));
        due("element", 0, x.element(7, 160));
        due("element", 0, x.element(7, -1));
        due("element", 0, x.element(8, 0));
        due("element", 0, x.element(-1, 0));
        due("element", 0, x.element(5, 0));
        due("set", -5, x.set(0, 3, 1));
        due("set", -5, x.set(0, -1, 1));
        due("set", -5, x.set(3, 0, 1));
        due("set", -1, x.set(8, 0, 1));
        due("set", -1, x.set(-1, 0, 1));
        due("set", -3, x.set(5, 0, 1));
        x.speaker(0, 0);
        x.show(5, 0);
        due("set", -2, x.set(5, 0, 1));
        due("element", 0, x.element(5, 0));
        x.set(0, 2, 9);
        due("row anew", 1, x.row(0, 3, 3));
        due("element", 0, x.element(0, 2));
        due("holds", 103, x.holds(0));
    }

    private static void copies() {
        C.about("4 copy");
        HalfOfItFalse x = new HalfOfItFalse();
        Checks.fill(x, 0, 2, 1, 2, 3, 4, 5);
        Checks.fill(x, 1, 2, 9, 9, 9);
        Checks.fill(x, 2, 3, 9, 9, 9);
        due("copy", 1, x.copy(0, 1, 3, 1, 2));
        due("element", 9, x.element(1, 0));
        due("element", 4, x.element(1, 1));
        due("element", 5, x.element(1, 2));
        due("copy within", 1, x.copy(0, 0, 0, 1, 4));
        for (int i = 0; i < 5; i++) {
            due("element " + i, Math.max(1, i), x.element(0, i));
        }
        due("copy none", 1, x.copy(0, 1, 5, 3, 0));
        due("copy", -5, x.copy(0, 1, 6, 0, 0));
        due("copy", -5, x.copy(0, 1, 0, 4, 0));
        due("copy", -5, x.copy(0, 1, 0, 0, 4));
        due("copy", -5, x.copy(1, 0, 1, 0, 3));
        due("copy", -5, x.copy(0, 1, -1, 0, 1));
        due("copy", -5, x.copy(0, 1, 0, -1, 1));
        due("copy", -5, x.copy(0, 1, BIG, 0, BIG));
        due("copy", -5, x.copy(0, 1, 0, 0, BIG));
        due("copy", -4, x.copy(0, 1, -1, 0, -1));
        due("copy", -2, x.copy(0, 2, 0, 0, -1));
        due("copy", -3, x.copy(0, 3, 0, 0, -1));
        due("copy", -3, x.copy(3, 0, 0, 0, -1));
        due("copy", -3, x.copy(3, 3, 0, 0, 0));
        due("copy", -1, x.copy(8, 3, 0, 0, 0));
        due("copy", -1, x.copy(3, -1, 0, 0, 0));
        x.speaker(1, 1);
        x.show(4, 0);
        due("copy", -2, x.copy(4, 3, 0, 0, 0));
        due("copy", -2, x.copy(3, 4, 0, 0, 0));
        due("copy", -2, x.copy(0, 4, 0, 0, -1));
        due("status", 2, x.status(11));
        due("status", 4, x.status(12));
        due("status", 3, x.status(13));
        due("status", 1, x.status(14));
        due("status", 8, x.status(15));
    }

    private static void shows() {
        C.about("6, 7 show, holds");
        HalfOfItFalse x = Checks.make(1, 4, 2, 0, 1);
        due("show", 1, x.show(0, 1));
        due("holds", 1, x.holds(0));
        due("show", 0, x.show(0, -1));
        due("holds", -1, x.holds(0));
        due("show", -1, x.show(0, 2));
        due("show", -1, x.show(0, -2));
        due("show", -1, x.show(8, 0));
        due("show", -1, x.show(-1, -1));
        due("status", 4, x.status(11));
        x.row(0, 1, 3);
        due("holds", 101, x.holds(0));
        due("show over a row", 1, x.show(0, 0));
        due("holds", 0, x.holds(0));
        due("holds", -1, x.holds(8));
        due("holds", -1, x.holds(-1));
        due("nothing counted", 4, x.status(11));
    }

    private static void saysOfShelves() {
        C.about("8 says");
        HalfOfItFalse x = Checks.make(1, 3, 2, 0, 1, 2, 3, 5, 6);
        for (int s = 0; s < 6; s++) {
            x.show(s, s);
        }
        int[] kinds = {0, 1, 2, 3, 5, 6};
        // Of N 3, T 2, a 5: true, and after 1, 2, 3 sayings.
        int[][] next = {{0, 1, 2, 3}, {1, 1, 0, 0}, {0, 1, 1, 1}, {1, 0, 1, 0}, {0, 1, 0, 1},
            {0, 0, 1, 1}};
        for (int said = 0; said < 4; said++) {
            for (int s = 0; s < 6; s++) {
                due("says " + kinds[s] + " after " + said, next[s][said], x.says(s, kinds[s]));
                due("says as SPEAKER", said, x.says(s, 0));
            }
            due("LATE as KIND", next[3][said], x.says(3, 1));
            due("TOLD as CODE", next[4][said], x.says(4, 4));
            if (said < 3) {
                sayOneEach(x, said, next);
            }
        }
        due("SPEAKER as KIND", -2, x.says(0, 1));
        due("KIND as LATE", -2, x.says(1, 3));
        due("KIND as SLY", -2, x.says(1, 2));
        due("TOLD as PAIRS", -2, x.says(4, 6));
        due("TOLD as KIND", -2, x.says(4, 1));
        due("says", -1, x.says(8, 0));
        due("says", -1, x.says(-1, 0));
        due("says", -1, x.says(0, 7));
        due("says", -1, x.says(0, -1));
        due("says", -3, x.says(7, 1));
        x.row(7, 0, 1);
        due("says", -2, x.says(7, 0));
        HalfOfItFalse y = Checks.make(1, 2, 0, 2, 3, 4);
        for (int s = 0; s < 3; s++) {
            y.show(s, s);
        }
        due("SLY of T 0", 0, y.says(0, 2));
        due("LATE of T 0", 0, y.says(1, 3));
        due("CODE", 1, y.says(2, 4));
        y.say(0, 0, true);
        y.say(0, 0, true);
        due("SLY of T 0 behind the day", 1, y.says(0, 2));
    }

    /** Says what all kinds but SPEAKER may in the world in which the fact is so. */
    private static void sayOneEach(HalfOfItFalse x, int said, int[][] next) {
        x.say(0, 0, said < 2);
        for (int s = 1; s < 5; s++) {
            x.say(s, 0, next[s][said] == 1);
        }
        x.say(5, 0, said % 2 == 0);
    }

    private static void facts() {
        C.about("9, 13 fact, harm");
        HalfOfItFalse x = new HalfOfItFalse();
        due("fact", -6, x.fact(100));
        due("fact", -6, x.fact(-1));
        for (int f = 0; f < 6; f++) {
            due("fact", f, x.fact(f == 0 ? 99 : f == 1 ? 0 : f));
            due("many", 2 << f, x.many());
        }
        due("worlds", -1, x.worlds());
        due("fact", -7, x.fact(0));
        due("fact", -6, x.fact(100));
        due("status", 6, x.status(0));
        due("harm", 99, x.harm(0, 0));
        due("harm", 0, x.harm(0, 99));
        due("harm", 0, x.harm(1, 7));
        due("harm", 7, x.harm(1, 7));
        due("harm", -6, x.harm(1, 100));
        due("harm", -6, x.harm(1, -1));
        due("harm", -1, x.harm(6, 100));
        due("harm", -1, x.harm(-1, 0));
        due("harm", 7, x.harm(1, 0));
        HalfOfItFalse y = Checks.make(1, 4, 2, 1);
        y.known(0, false);
        y.fact(0);
        due("left without fact 0", 5, y.worlds());
        y.say(0, 1, true);
        y.fact(0);
        due("worlds", (1 << 2) + (1 << 6), y.worlds());
        due("left", 4, y.status(3));
    }

    private static void speakers() {
        C.about("10, 12 speaker, speakerOf");
        HalfOfItFalse x = new HalfOfItFalse();
        due("speaker", -1, x.speaker(7, 0));
        due("speaker", -1, x.speaker(-1, 5000));
        due("speaker", -6, x.speaker(0, 1024));
        due("speaker", -6, x.speaker(0, -1));
        for (int s = 0; s < 6; s++) {
            due("speaker", s, x.speaker(s + 1, s == 0 ? 1023 : s));
        }
        due("speaker", -7, x.speaker(0, 0));
        due("speaker", -6, x.speaker(0, 1024));
        due("speaker", -1, x.speaker(7, 0));
        due("status", 6, x.status(1));
        due("kind", 1, x.speakerOf(0, 0));
        due("kind", 6, x.speakerOf(5, 0));
        due("a", 1023, x.speakerOf(0, 1));
        due("a", 3, x.speakerOf(3, 1));
        due("said", 0, x.speakerOf(0, 2));
        x.fact(0);
        x.say(0, 0, true);
        due("said", 1, x.speakerOf(0, 2));
        due("speakerOf", -5, x.speakerOf(0, 3));
        due("speakerOf", -5, x.speakerOf(0, -1));
        due("speakerOf", -5, x.speakerOf(6, 0));
        due("speakerOf", -5, x.speakerOf(-1, 0));
        due("status", 4, x.status(15));
        due("status", 3, x.status(11));
    }

    private static void laws() {
        C.about("11 law");
        HalfOfItFalse x = Checks.make(1, 2, 0, 0);
        due("law", 200, x.law(10, 10));
        due("law", 1010, x.law(2, 2));
        due("law", -6, x.law(1, 1));
        due("law", -6, x.law(11, 2));
        due("law", -6, x.law(2, 3));
        due("law", -6, x.law(2, -1));
        due("law", -6, x.law(SMALL, SMALL));
        due("law", 202, x.law(5, 3));
        x.say(0, 0, true);
        due("law while said", -6, x.law(5, 3));
        x.unsay();
        due("law", 503, x.law(4, 1));
        due("n", 4, x.status(4));
        due("t", 1, x.status(5));
        x.say(0, 0, true);
        x.sunset();
        due("law after sunset", 401, x.law(4, 2));
    }

    private static void sayings() {
        C.about("14, 15, 16 say, unsay, sayingOf");
        HalfOfItFalse x = Checks.make(2, 2, 1, 1, 0);
        due("say", 2, x.say(0, 1, true));
        due("say", -6, x.say(0, 1, true));
        due("say", 1, x.say(0, 0, false));
        due("day full", -6, x.say(0, 0, true));
        due("say", -1, x.say(2, 0, true));
        due("say", -1, x.say(-1, 0, true));
        due("say", -1, x.say(0, 2, true));
        due("say", -1, x.say(0, -1, true));
        due("sayingOf", 11, x.sayingOf(0));
        due("sayingOf", 0, x.sayingOf(1));
        due("sayingOf", -1, x.sayingOf(2));
        due("sayingOf", -1, x.sayingOf(-1));
        due("say", 1, x.say(1, 0, false));
        due("sayingOf", 100, x.sayingOf(2));
        due("unsay", 2, x.unsay());
        due("unsay", 1, x.unsay());
        due("day is not full now", 1, x.speakerOf(0, 2));
        due("unsay", 0, x.unsay());
        due("unsay", -6, x.unsay());
        due("sayingOf", -1, x.sayingOf(0));
        due("many", 4, x.many());
        HalfOfItFalse y = Checks.make(1, 10, 5, 0, 0, 0, 1);
        for (int i = 0; i < 24; i++) {
            due("say", 2, y.say(i / 8, 0, i % 2 == 0));
        }
        due("no room", -7, y.say(0, 0, true));
        due("no room", -7, y.say(3, 0, true));
        due("status", 24, y.status(2));
        y.known(0, false);
        due("can't be, ahead of room", -6, y.say(3, 0, true));
        due("status", 1, y.status(16));
        due("status", 2, y.status(17));
        HalfOfItFalse z = Checks.make(1, 4, 2, 0, 0, 0, 0, 0, 0);
        for (int i = 0; i < 24; i++) {
            due("say", 2, z.say(i / 4, 0, i % 2 == 0));
        }
        due("full, ahead of room", -6, z.say(0, 0, true));
    }

    private static void knowns() {
        C.about("17 known");
        HalfOfItFalse x = Checks.make(3, 4, 2, 1);
        due("known", 4, x.known(1, true));
        due("worlds", 0xCC, x.worlds());
        due("known", -6, x.known(1, false));
        due("known", -1, x.known(3, true));
        due("known", -1, x.known(-1, true));
        due("known", 2, x.known(0, false));
        due("worlds", 0x44, x.worlds());
        x.say(0, 2, true);
        due("left, not worlds", 2, x.status(3));
        due("no world would be", -6, x.known(2, false));
        due("status", 2, x.status(3));
        due("known", 1, x.known(2, true));
        due("known again", 1, x.known(2, true));
    }

    /** For each kind: which sayings, said of a fact that is so, can be. */
    private static void kinds() {
        C.about("20 canBe by kinds");
        checkRows(5, 2, 1, "11000");
        checkRows(5, 0, 1, "00000");
        checkRows(5, 5, 1, "11111");
        checkRows(5, 2, 2, "00011");
        checkRows(5, 0, 2, "00000");
        checkRows(5, 2, 3, "10001");
        checkRows(5, 1, 3, "00001");
        checkRows(5, 4, 3, "11101");
        checkRows(5, 0, 3, "00000");
        checkRows(5, 5, 3, "11111");
        checkRows(2, 1, 3, "01");
        checkRows(5, 2, 4, "10100");
        checkRows(5, 2, 5, "01011");
        HalfOfItFalse x = Checks.make(2, 3, 1, 0, 6);
        x.say(0, 0, true);
        due("canBe", 1, x.canBe(0, 0));
        due("canBe", 1, x.canBe(0, 1));
        x.say(0, 1, true);
        due("canBe FF", 1, x.canBe(0, 0));
        due("canBe TF", 1, x.canBe(0, 1));
        due("canBe TT", 0, x.canBe(0, 3));
        x.say(0, 1, true);
        due("canBe FFF", 0, x.canBe(0, 0));
        due("canBe TFF", 1, x.canBe(0, 1));
        due("canBe FTT", 0, x.canBe(0, 2));
        x.say(1, 0, true);
        due("canBe", 1, x.canBe(1, 0));
        due("canBe, though no world any more", 1, x.canBe(1, 3));
        due("worlds", 2, x.worlds());
        due("canBe", -1, x.canBe(2, 0));
        due("canBe", -1, x.canBe(-1, 0));
        due("canBe", -1, x.canBe(0, 4));
        due("canBe", -1, x.canBe(0, -1));
        pairs();
    }

    private static void pairs() {
        HalfOfItFalse x = Checks.make(2, 3, 1, 6);
        x.say(0, 0, true);
        x.say(0, 1, false);
        due("pair FT", 1, x.canBe(0, 0));
        due("pair TT", 0, x.canBe(0, 1));
        due("pair FF", 0, x.canBe(0, 2));
        due("pair TF", 1, x.canBe(0, 3));
        x.say(0, 1, false);
        due("no pair across pairs", (1 << 0) + (1 << 3), x.worlds());
    }

    private static void checkRows(int n, int t, int kind, String row) {
        HalfOfItFalse x = Checks.make(1, n, t, kind);
        x.known(0, true);
        for (int i = 0; i < n; i++) {
            boolean due = row.charAt(i) == '1';
            due(kind + " " + t + " of " + n + ", number " + i, -6, x.say(0, 0, !due));
            due(kind + " " + t + " of " + n + ", number " + i, 1, x.say(0, 0, due));
            due("canBe", 1, x.canBe(0, 1));
            due("canBe", 0, x.canBe(0, 0));
        }
    }

    private static void cans() {
        C.about("21 can");
        HalfOfItFalse x = Checks.make(2, 2, 1, 2, 0);
        due("truly", 0, x.can(0, 0, 1));
        due("falsely", 1, x.can(0, 0, 0));
        due("so", 1, x.can(0, 0, 2));
        due("not so", 1, x.can(0, 0, 3));
        x.known(0, true);
        due("so", 0, x.can(0, 0, 2));
        due("not so", 1, x.can(0, 0, 3));
        due("truly", 1, x.can(1, 0, 1));
        due("falsely", 1, x.can(1, 0, 0));
        x.say(1, 0, true);
        due("truly", 0, x.can(1, 0, 1));
        due("truly", 0, x.can(1, 1, 1));
        due("falsely", 1, x.can(1, 1, 0));
        x.say(1, 0, false);
        for (int what = 0; what < 4; what++) {
            due("full", 0, x.can(1, 1, what));
        }
        due("can", -5, x.can(1, 1, 4));
        due("can", -5, x.can(1, 1, -1));
        due("can", -1, x.can(1, 2, 4));
        due("can", -1, x.can(2, 1, 4));
        due("can", -1, x.can(-1, -1, 0));
        due("nothing was said", 2, x.status(2));
        HalfOfItFalse y = Checks.make(1, 10, 5, 0, 0, 0);
        for (int i = 0; i < 24; i++) {
            y.say(i / 8, 0, i % 2 == 0);
        }
        due("room isn't asked", 1, y.can(0, 0, 2));
        due("sayings are as they were", 100 * 2, y.sayingOf(23));
        due("sayings are as they were", -1, y.sayingOf(24));
    }

    private static void sures() {
        C.about("22 to 25 worlds, many, sure, sures");
        HalfOfItFalse x = Checks.make(3, 4, 2, 1, 2);
        due("worlds", 255, x.worlds());
        due("many", 8, x.many());
        due("sures", 0, x.sures());
        due("sure", -1, x.sure(0));
        x.say(0, 0, true);
        x.say(1, 2, true);
        due("worlds", (1 << 1) + (1 << 3), x.worlds());
        due("many", 2, x.many());
        due("sure", 1, x.sure(0));
        due("sure", -1, x.sure(1));
        due("sure", 0, x.sure(2));
        due("sures", 5, x.sures());
        due("none counted", 0, x.status(11));
        due("sure", -11, x.sure(3));
        due("sure", -11, x.sure(-1));
        due("status", 2, x.status(11));
    }

    private static void proofs() {
        C.about("26, 27 shown, proof");
        HalfOfItFalse x = Checks.make(2, 4, 2, 0, 1);
        due("shown", -5, x.shown(0));
        due("proof", -5, x.proof(0));
        due("shown", -1, x.shown(2));
        due("proof", -1, x.proof(-1));
        x.say(0, 1, true);
        x.say(0, 0, true);
        x.say(0, 0, true);
        due("not yet", -1, x.sure(0));
        x.say(1, 1, true);
        due("three can't be true", 0, x.sure(0));
        due("shown", 4, x.shown(0));
        due("proof", 4, x.proof(0));
        due("shown", 4, x.shown(1));
        due("proof", 1, x.proof(1));
        HalfOfItFalse y = Checks.make(1, 4, 1, 0);
        due("say", 2, y.say(0, 0, true));
        due("say", 1, y.say(0, 0, true));
        due("say", 1, y.say(0, 0, true));
        due("sure", 0, y.sure(0));
        due("shown", 2, y.shown(0));
        due("proof", 2, y.proof(0));
        y.known(0, false);
        due("shown by none", 0, y.shown(0));
        due("proof by none", 0, y.proof(0));
        numbersKept();
        HalfOfItFalse z = Checks.make(1, 6, 3, 1, 0, 0);
        for (int i = 0; i < 10; i++) {
            z.say(1 + i % 2, 0, i < 4);
        }
        z.say(0, 0, true);
        due("eleven", 11, z.status(2));
        due("shown", 11, z.shown(0));
        due("proof of eleven", -7, z.proof(0));
        z.unsay();
        z.unsay();
        z.say(0, 0, true);
        due("ten", 10, z.status(2));
        due("proof of ten", 1, z.proof(0));
    }

    /** The second saying of one who lies second shows alone, by the number that it keeps. */
    private static void numbersKept() {
        HalfOfItFalse x = Checks.make(2, 2, 1, 1, 6);
        x.say(0, 0, true);
        x.say(0, 1, true);
        due("sure", 0, x.sure(1));
        due("shown", 2, x.shown(1));
        due("proof", 1, x.proof(1));
        x.sunset();
        HalfOfItFalse y = Checks.make(3, 4, 2, 6);
        y.say(0, 0, true);
        y.say(0, 1, true);
        y.say(0, 1, true);
        y.say(0, 2, true);
        due("many", 2, y.many());
        y.known(1, true);
        due("sure", 0, y.sure(2));
        due("shown", 4, y.shown(2));
        due("proof by the second pair", 2, y.proof(2));
        due("proof by the first pair", 2, y.proof(0));
        due("shown by the first pair", 2, y.shown(0));
    }

    private static void questions() {
        C.about("28, 29 worst, next");
        HalfOfItFalse x = Checks.make(2, 2, 1, 0, 1, 2);
        due("worst of SPEAKER", 4, x.worst(0, 0));
        due("worst of KIND", 2, x.worst(1, 1));
        due("next", 10, x.next());
        x.known(0, true);
        due("worst", 2, x.worst(1, 0));
        due("worst", 1, x.worst(1, 1));
        due("next", 11, x.next());
        x.say(1, 0, true);
        x.say(1, 0, false);
        due("day full", -6, x.worst(1, 1));
        due("next", 21, x.next());
        due("worst", -1, x.worst(3, 0));
        due("worst", -1, x.worst(0, 2));
        due("worst", -1, x.worst(1, -1));
        due("nothing was said", 2, x.status(2));
        for (int s = 0; s < 3; s += 2) {
            x.say(s, 0, s == 0);
            x.say(s, 0, s == 2);
        }
        due("no question", -5, x.next());
        due("status", 1, x.status(15));
        HalfOfItFalse y = new HalfOfItFalse();
        y.speaker(1, 0);
        due("no fact", -5, y.next());
    }

    private static void knowing() {
        C.about("30, 31 knows, tree");
        HalfOfItFalse x = Checks.make(2, 2, 1, 1);
        due("knows", 0, x.knows(0, 0));
        due("knows", 1, x.knows(0, 1));
        due("knows", 1, x.knows(0, 2));
        due("tree", 1, x.tree(0));
        due("knows", -6, x.knows(0, 3));
        due("knows", -6, x.knows(0, -1));
        due("knows", -1, x.knows(2, 3));
        due("knows", -1, x.knows(-1, 0));
        due("tree", -11, x.tree(2));
        due("tree", -11, x.tree(-1));
        due("status", 4, x.status(11));
        x.say(0, 0, true);
        due("tree", 0, x.tree(0));
        due("tree", 1, x.tree(1));
        x.say(0, 0, false);
        due("no question more", -1, x.tree(1));
        due("knows", 0, x.knows(1, 2));
        due("sure is known in 2 too", 1, x.knows(0, 2));
        due("sure is known in 1 too", 1, x.knows(0, 1));
        HalfOfItFalse y = Checks.make(1, 4, 2, 0);
        due("SPEAKER of 2 of 4", -1, y.tree(0));
        y.say(0, 0, true);
        due("SPEAKER of 2 of 4", -1, y.tree(0));
        HalfOfItFalse z = Checks.make(1, 4, 0, 0);
        due("SPEAKER of 0 of 4", 1, z.tree(0));
        HalfOfItFalse two = Checks.make(2, 2, 1, 6, 0);
        two.known(0, true);
        due("a pair: one of what is known, one of the other", 2, two.tree(1));
        due("knows", 0, two.knows(1, 1));
        due("knows", 1, two.knows(1, 2));
        due("tree", 0, two.tree(0));
        HalfOfItFalse room = Checks.make(2, 10, 5, 0, 0, 0, 1);
        for (int i = 0; i < 24; i++) {
            room.say(i / 8, 0, i % 2 == 0);
        }
        due("room isn't asked", 1, room.tree(1));
        due("room isn't asked", 30, room.next());
        due("room isn't asked", 2, room.worst(3, 0));
        due("still said", 24, room.status(2));
    }

    private static void rowsAndTells() {
        C.about("32, 33 rows, tells");
        HalfOfItFalse x = Checks.make(1, 5, 2, 0, 6, 3, 5);
        int[] free = {1, 2, 4, 7, 10, 10};
        int[] pairs = {1, 2, 2, 4, 4, 8};
        for (int m = 0; m <= 5; m++) {
            due("rows of SPEAKER " + m, free[m], x.rows(0, m));
            due("rows of PAIRS " + m, pairs[m], x.rows(1, m));
            due("rows of LATE " + m, 1, x.rows(2, m));
            due("rows of TOLD " + m, 1, x.rows(3, m));
        }
        due("rows", -6, x.rows(0, 6));
        due("rows", -6, x.rows(0, -1));
        due("rows", -1, x.rows(4, 6));
        due("rows", -1, x.rows(-1, 0));
        due("tells", 0, x.tells(0, 1));
        due("tells", 1, x.tells(0, 2));
        due("tells", 2, x.tells(0, 3));
        due("tells", 3, x.tells(0, 7));
        due("tells", 4, x.tells(0, 8));
        due("tells", 4, x.tells(0, 10));
        due("tells", -1, x.tells(0, 11));
        due("tells", 5, x.tells(1, 8));
        due("tells", -1, x.tells(1, 1024));
        due("tells", -1, x.tells(2, 2));
        due("tells", 0, x.tells(2, 1));
        due("status", 2, x.status(11));
        due("status", 2, x.status(16));
        due("tells", -11, x.tells(4, 0));
        due("tells", -11, x.tells(-1, 1));
        due("tells", -16, x.tells(0, 0));
        due("tells", -16, x.tells(0, 1025));
        due("status", 4, x.status(11));
        due("status", 4, x.status(16));
        x.say(0, 0, true);
        due("as if nothing had been said", 10, x.rows(0, 5));
        HalfOfItFalse y = Checks.make(1, 10, 5, 0);
        due("252", 252, y.rows(0, 10));
        due("252", 252, y.rows(0, 9));
        due("tells", 9, y.tells(0, 252));
        due("tells", -1, y.tells(0, 253));
    }

    private static void errands() {
        C.about("34, 35 errands, placed");
        HalfOfItFalse x = Checks.make(4, 5, 2);
        x.harm(0, 0);
        Checks.fill(x, 0, 0, 3, 2, 0, 2, 1);
        due("errands", 0 + 2 + 3, x.errands(0, 0));
        due("the first of two", 0b10110, x.placed(0, 0));
        due("errands", 0 + 2, x.errands(0, 1));
        due("placed", 0b10100, x.placed(0, 1));
        due("placed", 0b100, x.placed(0, 2));
        due("idle ones ahead of harm 0", 0, x.placed(0, 3));
        due("errands", 0, x.errands(0, 10));
        due("errands", -6, x.errands(0, 11));
        due("errands", -6, x.errands(0, -1));
        due("placed", -6, x.placed(0, 11));
        due("placed", -6, x.placed(0, -1));
        Checks.fill(x, 1, 3, -1, (1L << 32) + 3, 4, 2, 1L << 33);
        due("as ints", 4 + 3 + 0, x.errands(1, 0));
        due("as ints", 0b11010, x.placed(1, 0));
        due("all, if they are fewer", 3, x.errands(1, 1));
        Checks.fill(x, 1, 2, 3, 2);
        due("all, if they are fewer", 4 + 3, x.errands(1, 0));
        due("all, if they are fewer", 0b11, x.placed(1, 0));
        x.row(2, 1, 10);
        due("ten", 0, x.errands(2, 0));
        due("ten", 0b111, x.placed(2, 0));
        x.row(2, 1, 11);
        due("eleven", -6, x.errands(2, 0));
        due("eleven", -6, x.placed(2, 0));
        x.row(2, 1, 0);
        due("none", 0, x.errands(2, 0));
        due("none", 0, x.placed(2, 0));
        due("errands", -3, x.errands(3, 11));
        due("placed", -3, x.placed(3, 11));
        due("errands", -1, x.errands(8, 11));
        due("placed", -1, x.placed(-1, 11));
        x.speaker(0, 0);
        x.show(3, 0);
        due("errands", -2, x.errands(3, 11));
        due("placed", -2, x.placed(3, 11));
    }

    private static void trusts() {
        C.about("36 trust");
        HalfOfItFalse x = Checks.make(2, 2, 1, 1, 2, 0, 6, 4, 5);
        int[] first = {4, 0, 0, 0, 4, 0};
        for (int s = 0; s < 6; s++) {
            due("trust " + s, first[s], x.trust(s));
        }
        x.say(2, 0, true);
        x.say(3, 0, true);
        due("half of the worlds", 0, x.trust(2));
        x.known(1, true);
        x.say(0, 0, true);
        due("now falsely alone", -1, x.trust(2));
        due("now falsely alone", -1, x.trust(3));
        due("KIND", 0, x.trust(0));
        x.say(0, 1, false);
        due("full", -1000006, x.trust(0));
        due("trust", -1000001, x.trust(6));
        due("trust", -1000001, x.trust(-1));
        due("status", 2, x.status(11));
        due("status", 1, x.status(16));
        HalfOfItFalse y = Checks.make(1, 2, 2, 0);
        due("true alone", 2, y.trust(0));
        y.law(2, 0);
        due("false alone", -2, y.trust(0));
        y.law(3, 2);
        y.say(0, 0, true);
        due("truly in both, falsely in one", 1, y.trust(0));
    }

    private static void witnesses() {
        C.about("37 witness");
        HalfOfItFalse x = Checks.make(3, 4, 2, 0, 1, 2, 1);
        due("of several the first", 0, x.witness());
        x.say(1, 0, true);
        due("witness", 1, x.witness());
        x.say(2, 1, true);
        due("of several the first", 1, x.witness());
        x.say(3, 1, false);
        due("those of 2 are told by 3 too", 1, x.witness());
        x.say(2, 2, true);
        due("those of 2 tell more", 1, x.witness());
        x.say(1, 2, false);
        due("witness", 1, x.witness());
        x.unsay();
        x.unsay();
        x.say(3, 2, true);
        due("1 and 3", 1, x.witness());
        x.say(1, 2, true);
        due("1 alone", 1, x.witness());
        HalfOfItFalse y = Checks.make(3, 4, 2, 1, 1);
        y.say(0, 0, true);
        y.say(1, 1, true);
        y.say(1, 2, true);
        due("the second", 1, y.witness());
        due("many is as it was", 1, y.many());
    }

    private static void judges() {
        C.about("38 judge");
        HalfOfItFalse x = Checks.make(2, 2, 1, 1, 0);
        Checks.fill(x, 0, 2, 1, 1, 0, 110, 111, 100);
        due("can't be", 1, x.judge(0, 6));
        due("not so far", -1, x.judge(0, 1));
        due("none", -1, x.judge(0, 0));
        Checks.fill(x, 0, 2, 1, 10, 0, 110);
        due("day is full", 2, x.judge(0, 4));
        Checks.fill(x, 0, 2, 1, 0, 110, 111, 100);
        due("full of 1", 4, x.judge(0, 5));
        for (long none : new long[] {2, 20, 200, -1, -101, 9, 1000000, 120, Integer.MIN_VALUE}) {
            Checks.fill(x, 0, 3, 1, none);
            due("no saying: " + none, 1, x.judge(0, 2));
        }
        Checks.fill(x, 0, 3, 1 + (1L << 40), 0);
        due("as ints", -1, x.judge(0, 2));
        due("nothing was said", 0, x.status(2));
        x.say(0, 0, true);
        Checks.fill(x, 0, 2, 0, 10);
        due("behind those of today", 1, x.judge(0, 2));
        due("judge", -4, x.judge(0, -1));
        due("judge", -5, x.judge(0, 3));
        due("judge", -5, x.judge(0, 25));
        x.row(1, 0, 30);
        due("judge", -6, x.judge(1, 25));
        due("judge", -3, x.judge(2, -1));
        x.show(2, 0);
        due("judge", -2, x.judge(2, -1));
        due("judge", -1, x.judge(8, -1));
        due("judge", -1, x.judge(-1, 0));
        HalfOfItFalse y = Checks.make(1, 10, 5, 0, 0, 0, 0, 0, 0);
        y.row(0, 2, 24);
        for (int i = 0; i < 24; i++) {
            y.set(0, i, 100 * (3 + i / 8) + i % 2);
            y.say(i / 8, 0, i % 2 == 0);
        }
        due("room isn't asked", -1, y.judge(0, 24));
        HalfOfItFalse z = Checks.make(1, 10, 5, 0, 0, 0, 1, 1, 1);
        z.known(0, true);
        z.row(0, 2, 24);
        for (int i = 0; i < 24; i++) {
            z.set(0, i, 100 * (3 + i / 8) + (i % 8 < 5 ? 1 : 0));
            z.say(i / 8, 0, i % 2 == 0);
        }
        due("all 48 can be", -1, z.judge(0, 24));
        z.set(0, 23, 501);
        due("the last of 48 can't be", 23, z.judge(0, 24));
        y.set(0, 23, 600);
        due("no such speaker", 23, y.judge(0, 24));
        due("still said", 24, y.status(2));
        due("many", 2, y.many());
    }

    private static void sunsets() {
        C.about("39 sunset");
        HalfOfItFalse x = Checks.make(2, 2, 1, 1);
        due("sunset", 4, x.sunset());
        x.say(0, 0, true);
        x.say(0, 1, true);
        due("left", 4, x.status(3));
        due("sunset", 1, x.sunset());
        due("left", 1, x.status(3));
        due("worlds", 2, x.worlds());
        due("days", 2, x.status(6));
        due("sayings", 0, x.status(2));
        due("said", 0, x.speakerOf(0, 2));
        due("sayingOf", -1, x.sayingOf(0));
        due("unsay", -6, x.unsay());
        due("sure", 1, x.sure(0));
        due("shown", 0, x.shown(0));
        due("first again", 1, x.say(0, 0, true));
        due("lying second again", -6, x.say(0, 1, false));
        due("lying second again", 1, x.say(0, 1, true));
    }

    private static void draws() {
        C.about("40, 42, 43 draw, truly, seed");
        HalfOfItFalse x = Checks.make(3, 4, 2, 1);
        due("truly", -1, x.truly(8));
        due("truly", -1, x.truly(-1));
        due("truly", -6, x.truly(7));
        x.known(0, true);
        int seed = 1;
        int[] worlds = {1, 3, 5, 7};
        for (int i = 0; i < 20; i++) {
            due("draw", 4, x.draw());
            seed = seed * 1103515245 + 12345;
            due("seed", seed, x.status(7));
            for (int w = 0; w < 8; w++) {
                due("truly", w == worlds[(seed >>> 16) % 4] ? 1 : 0, x.truly(w));
            }
        }
        due("seed", seed, x.seed(-77));
        due("seed", -77, x.seed(5));
        due("seed", 5, x.status(7));
        HalfOfItFalse y = Checks.make(0, 4, 2);
        due("draw of one", 1, y.draw());
        due("seed moves", 1103527590, y.status(7));
        due("truly", 1, y.truly(0));
        y.fact(1);
        y.fact(1);
        due("a fact more is not so there", 1, y.truly(0));
        due("truly", 0, y.truly(1));
        due("sunset", 4, y.sunset());
        due("still drawn", 1, y.truly(0));
        due("truly", -1, y.truly(4));
    }

    private static void asks() {
        C.about("41 ask");
        HalfOfItFalse x = Checks.make(1, 3, 1, 1, 2, 3, 4, 5);
        due("nothing is drawn", -6, x.ask(0, 0));
        due("ask", -1, x.ask(5, 0));
        due("ask", -1, x.ask(0, 1));
        due("ask", -1, x.ask(-1, 0));
        x.known(0, true);
        x.draw();
        int seed = x.status(7);
        String[] rows = {"100", "001", "001", "101", "010"};
        for (int s = 0; s < 5; s++) {
            for (int i = 0; i < 3; i++) {
                due("ask " + s + " number " + i, rows[s].charAt(i) - '0', x.ask(s, 0));
                due("a saying", 100 * s + rows[s].charAt(i) - '0', x.sayingOf(3 * s + i));
            }
        }
        due("no draw", seed, x.status(7));
        due("full", -6, x.ask(0, 0));
        askFree();
        askWhatCannotBe();
        askWithoutRoom();
    }

    private static void askFree() {
        HalfOfItFalse x = Checks.make(1, 10, 5, 0, 6);
        x.known(0, false);
        x.draw();
        int seed = x.status(7);
        int trues = 0;
        int falses = 0;
        for (int i = 0; i < 10; i++) {
            boolean both = trues < 5 && falses < 5;
            seed = both ? seed * 1103515245 + 12345 : seed;
            boolean truth = both ? (seed >>> 16) % 2 == 1 : trues < 5;
            trues += truth ? 1 : 0;
            falses += truth ? 0 : 1;
            due("SPEAKER " + i, truth ? 0 : 1, x.ask(0, 0));
            due("seed", seed, x.status(7));
        }
        boolean before = false;
        for (int i = 0; i < 10; i++) {
            seed = i % 2 == 0 ? seed * 1103515245 + 12345 : seed;
            boolean truth = i % 2 == 0 ? (seed >>> 16) % 2 == 1 : !before;
            before = truth;
            due("PAIRS " + i, truth ? 0 : 1, x.ask(1, 0));
            due("seed", seed, x.status(7));
        }
    }

    /** The world that was drawn may be none of those that are left since. */
    private static void askWhatCannotBe() {
        HalfOfItFalse y = Checks.make(1, 3, 0, 1, 0, 6);
        y.draw();
        int drawn = y.truly(1);
        due("known", 1, y.known(0, drawn == 0));
        due("KIND answers as it must, and can't", -6, y.ask(0, 0));
        due("SPEAKER of T 0 too", -6, y.ask(1, 0));
        due("nothing was said", 0, y.status(2));
        y.law(4, 2);
        due("a SPEAKER can", 1, y.ask(1, 0) >= 0 ? 1 : 0);
        y.say(2, 0, true);
        due("PAIRS can", 1, y.ask(2, 0) >= 0 ? 1 : 0);
        neitherCanBe();
        drawnButCannotBe();
    }

    private static void neitherCanBe() {
        HalfOfItFalse x = Checks.make(1, 4, 1, 0);
        for (int tries = 0; tries < 40 && x.truly(1) != 1; tries++) {
            x.draw();
        }
        due("drawn", 1, x.truly(1));
        x.say(0, 0, true);
        due("twice the same: not so", 1, x.say(0, 0, true));
        int seed = x.status(7);
        due("in that world it can't be at all", -6, x.ask(0, 0));
        due("seed", seed, x.status(7));
        due("sayings", 2, x.status(2));
    }

    /** A draw says false, but that can't be: the seed is as it was. */
    private static void drawnButCannotBe() {
        HalfOfItFalse x = Checks.make(2, 3, 1, 0);
        for (int tries = 0; tries < 40 && x.truly(0) != 1; tries++) {
            x.draw();
        }
        due("drawn", 1, x.truly(0));
        x.known(0, true);
        x.say(0, 0, true);
        int trues = 0;
        for (int i = 1; i < 40; i++) {
            int seed = i * 7919;
            x.seed(seed);
            int next = seed * 1103515245 + 12345;
            boolean truth = (next >>> 16) % 2 == 1;
            due("not so is true, so a second truth can't be", truth ? 0 : -6, x.ask(0, 0));
            due("seed", truth ? next : seed, x.status(7));
            due("sayings", truth ? 2 : 1, x.status(2));
            if (truth) {
                x.unsay();
                trues++;
            }
        }
        due("both came", 1, trues > 0 && trues < 39 ? 1 : 0);
    }

    private static void askWithoutRoom() {
        HalfOfItFalse x = Checks.make(1, 10, 5, 0, 0, 0, 1);
        x.draw();
        for (int i = 0; i < 24; i++) {
            x.say(i / 8, 0, i % 2 == 0);
        }
        int seed = x.status(7);
        due("no room", -7, x.ask(0, 0));
        due("no room", -7, x.ask(3, 0));
        due("seed", seed, x.status(7));
        due("sayings", 24, x.status(2));
        due("known", 1, x.known(0, x.truly(1) == 0));
        due("can't be, ahead of room", -6, x.ask(3, 0));
        due("status", 2, x.status(17));
        due("status", 1, x.status(16));
    }

    private static void acts() {
        C.about("44, 45 act, trace");
        HalfOfItFalse x = new HalfOfItFalse();
        for (int kind = 1; kind < 7; kind++) {
            x.speaker(kind, 10 * kind);
        }
        due("KIND says", 100 + 0 + 10, x.act(0, 0, 100));
        trace(x, 20, 10);
        due("KIND hides", 2 * 110, x.act(0, 1, 100));
        trace(x, 11, 20, 10);
        due("KIND knows", 220 ^ 100, x.act(0, 2, 100));
        trace(x, 12, 11, 20, 10, 20, 10);
        due("SLY hides", 3 * 2 * 101, x.act(1, 1, 100));
        trace(x, 40, 11, 10);
        due("LATE says", 101 + 2 + 30, x.act(2, 0, 100));
        trace(x, 30, 20, 10);
        due("LATE knows", (2 * 133 ^ 103) - 2, x.act(2, 2, 100));
        trace(x, 31, 12, 11, 30, 20, 10, 30, 20, 10);
        due("CODE hides", -2 * 103, x.act(3, 1, 100));
        trace(x, 50, 11, 10);
        due("TOLD hides", -2 * 104 ^ 5, x.act(4, 1, 100));
        trace(x, 60, 50, 11, 10);
        due("TOLD knows", -2 * 104 ^ 5 ^ 54, x.act(4, 2, 100));
        trace(x, 12, 60, 50, 11, 10, 10);
        due("PAIRS says", 2 * 105, x.act(5, 0, 100));
        trace(x, 70, 10);
        due("PAIRS knows", 4 * 45 ^ -2 * 15, x.act(5, 2, 100));
        trace(x, 71, 12, 11, 70, 10, 70, 10);
        due("wrapping", Integer.MIN_VALUE + 4, x.act(4, 0, Integer.MAX_VALUE) + 1);
        due("no such act", 0, x.act(4, 3, 100));
        trace(x);
        x.act(4, 0, 1);
        due("no such act", 0, x.act(4, -1, 100));
        trace(x);
        x.act(4, 0, 1);
        due("no such speaker", 0, x.act(6, 0, 100));
        trace(x);
        x.act(4, 0, 1);
        due("no such speaker", 0, x.act(-1, 0, 100));
        trace(x);
        for (int i = 11; i <= 17; i++) {
            due("nothing is refused", 0, x.status(i));
        }
    }

    private static void trace(HalfOfItFalse x, int... bodies) {
        due("ran", bodies.length, x.status(8));
        for (int i = 0; i < bodies.length; i++) {
            due("trace " + i, bodies[i], x.trace(i));
        }
        due("trace behind", -1, x.trace(bodies.length));
        due("trace", -1, x.trace(-1));
        due("trace", -1, x.trace(20));
        due("trace", -1, x.trace(BIG));
    }

    private static void images() {
        C.about("46, 47 image, restore");
        HalfOfItFalse x = Checks.make(2, 3, 1, 1, 0);
        x.seed(9);
        x.draw();
        int seed = x.status(7);
        int drawn = 0;
        while (x.truly(drawn) == 0) {
            drawn++;
        }
        x.say(0, 0, true);
        due("image", 1, x.image());
        x.act(0, 1, 1);
        x.say(1, 1, true);
        x.sunset();
        x.fact(50);
        x.speaker(5, 7);
        x.harm(0, 44);
        x.law(10, 10);
        x.seed(1);
        x.known(2, true);
        x.draw();
        x.show(0, 2);
        x.show(1, 1);
        x.row(2, 0, 3);
        x.set(2, 1, 8);
        Checks.write(x, 3, "fact 5;x");
        x.town(3);
        due("restore", 1, x.restore());
        int[] status = {2, 2, 1, 4, 3, 1, 0, seed, 3};
        for (int i = 0; i < status.length; i++) {
            due("status " + i, status[i], x.status(i));
        }
        due("worlds", 10, x.worlds());
        due("said", 1, x.speakerOf(0, 2));
        due("said", 0, x.speakerOf(1, 2));
        due("sayingOf", 1, x.sayingOf(0));
        due("sayingOf", -1, x.sayingOf(1));
        due("drawn", 1, x.truly(drawn));
        due("fault", 7, x.fault());
        due("trace", 11, x.trace(0));
        due("refused", 1, x.status(16));
        due("no such speaker now", -1, x.holds(0));
        due("holds", 1, x.holds(1));
        due("element", 8, x.element(2, 1));
        due("harm", 1, x.harm(0, 1));
        x.unsay();
        due("restore again", 1, x.restore());
        HalfOfItFalse y = new HalfOfItFalse();
        due("none", -6, y.restore());
        due("image", 0, y.image());
        y.speaker(0, 0);
        due("restore", 0, y.restore());
        due("speakers", 0, y.status(1));
        due("status", 1, y.status(16));
    }

    private static void statuses() {
        C.about("48 status");
        HalfOfItFalse x = Checks.make(2, 10, 3, 1, 0, 2);
        x.say(0, 0, true);
        x.sunset();
        x.say(1, 0, true);
        x.say(1, 0, true);
        x.act(0, 1, 1);
        int[] status = {2, 3, 2, 2, 10, 3, 1, 1, 3};
        for (int i = 0; i < status.length; i++) {
            due("status " + i, status[i], x.status(i));
        }
        for (int what : new int[] {-1, 9, 10, 18, BIG, SMALL}) {
            due("status " + what, -1, x.status(what));
        }
        x.harm(9, 9);
        x.copy(0, 0, 0, 0, 0);
        x.copy(0, 0, 0, 0, 0);
        x.row(0, 0, -1);
        x.row(0, 0, 200);
        x.speakerOf(9, 9);
        x.law(0, 0);
        x.show(0, 0);
        x.set(0, 0, 0);
        int[] refused = {1, 1, 2, 1, 1, 1, 1};
        for (int i = 0; i < 7; i++) {
            due("refused " + (i + 1), refused[i], x.status(11 + i));
        }
        due("status is not refused", 1, x.status(15));
    }
}
