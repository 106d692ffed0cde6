/** Each promise by its number: the bounds that its sentence names, up to them and beyond them. */
public final class PromiseBoundsTest {
    private static final Checks C = new Checks();
    private static final int BIG = Integer.MAX_VALUE;
    private static final int SMALL = Integer.MIN_VALUE;
    private static final int[] NO_SHELF = {-1, 8, SMALL, BIG};

    public static void main(String[] args) {
        calls();
        newObject();
        row();
        set();
        copy();
        copyAsTheyWere();
        element();
        show();
        holds();
        says();
        saysWithoutEnd();
        fact();
        speaker();
        law();
        speakerOf();
        harm();
        say();
        unsay();
        sayingOf();
        known();
        town();
        fault();
        canBe();
        can();
        worlds();
        sure();
        sures();
        shown();
        proof();
        worst();
        next();
        knows();
        tree();
        rows();
        tells();
        errands();
        placed();
        trust();
        witness();
        judge();
        sunset();
        draw();
        ask();
        truly();
        seed();
        act();
        trace();
        image();
        restore();
        restoredShelves();
        status();
        statusOfRefusals();
        C.end();
    }

    private static void due(String call, long want, long got) {
        C.due(call, want, got);
    }

    /** 24 sayings, eight each of the first three; the fourth, of a kind, said nothing. */
    private static HalfOfItFalse full(int kind) {
        HalfOfItFalse x = Checks.make(1, 8, 4, 0, 0, 0, kind);
        for (int i = 0; i < 24; i++) {
            x.say(i / 8, 0, i % 2 == 0);
        }
        return x;
    }

    private static void calls() {
        C.about("What it is: an object is used for at most 512 calls");
        HalfOfItFalse x = new HalfOfItFalse();
        due("1st", 0, x.fact(7));
        due("2nd", 1, x.row(0, 3, 160));
        for (int i = 0; i < 508; i++) {
            due("set", 1, x.set(0, i % 160, i));
        }
        due("511th", 507, x.element(0, 507 % 160));
        due("512th", 7, x.harm(0, 7));
        // What later calls answer is free, but LANGUAGE.md lets none of them throw.
        for (int i = 0; i < 512; i++) {
            x.say(0, 0, true);
            x.set(0, i, i);
            x.town(0);
        }
    }

    private static void newObject() {
        C.about("Promise 1: no FACTS (one WORLD, 0), no SPEAKERS");
        HalfOfItFalse x = new HalfOfItFalse();
        due("NONE", -1, HalfOfItFalse.NONE);
        due("facts", 0, x.status(0));
        due("fact 0", -11, x.sure(0));
        due("many", 1, x.many());
        due("worlds", 1, x.worlds());
        due("left", 1, x.status(3));
        due("world 0", -6, x.truly(0));
        due("world 1", -1, x.truly(1));
        due("speakers", 0, x.status(1));
        due("speaker 0", -5, x.speakerOf(0, 0));
        due("sayings", 0, x.status(2));
        due("days", 0, x.status(6));
        due("bodies", 0, x.status(8));
    }

    private static void row() {
        C.about("Promise 2: row: -1 SHELF");
        HalfOfItFalse x = new HalfOfItFalse();
        for (int s : NO_SHELF) {
            due("shelf " + s, -1, x.row(s, 0, 0));
        }
        due("shelf 0", 1, x.row(0, 0, 1));
        due("shelf 7", 1, x.row(7, 0, 1));
        C.about("Promise 2: row: -4 a size below 0");
        due("0", 1, x.row(0, 0, 0));
        due("-1", -4, x.row(0, 0, -1));
        due("least", -4, x.row(0, 0, SMALL));
        C.about("Promise 2: row: -6 SORT");
        for (int sort = 0; sort < 4; sort++) {
            due("sort", 1, x.row(0, sort, 1));
        }
        due("-1", -6, x.row(0, -1, 1));
        due("4", -6, x.row(0, 4, 1));
        due("100", -6, x.row(0, 100, 1));
        C.about("Promise 2: row: -7 n above 160");
        due("160", 1, x.row(0, 0, 160));
        due("161", -7, x.row(0, 0, 161));
        due("most", -7, x.row(0, 3, BIG));
        C.about("Promise 2: row: a new ROW: 0 at first, and no more than n");
        x.set(0, 0, 9);
        x.set(0, 4, 9);
        due("refused: as it was", -7, x.row(0, 1, 161));
        due("element", 9, x.element(0, 0));
        due("element", 1, x.set(0, 159, 9));
        due("a new one", 1, x.row(0, 0, 5));
        for (int i = 0; i < 5; i++) {
            due("element " + i, 0, x.element(0, i));
        }
        due("no more", -5, x.set(0, 5, 1));
        due("no more", 0, x.element(0, 159));
    }

    private static void set() {
        C.about("Promise 3: set: -5 an element that isn't there");
        for (int n = 0; n <= 160; n += 80) {
            HalfOfItFalse x = new HalfOfItFalse();
            x.row(0, 2, n);
            if (n > 0) {
                due("first", 1, x.set(0, 0, 3));
                due("last", 1, x.set(0, n - 1, 5));
                due("last", 5, x.element(0, n - 1));
                due("first", 3, x.element(0, 0));
            }
            for (int i : new int[] {-1, n, n + 1, SMALL, BIG}) {
                due("element " + i + " of " + n, -5, x.set(0, i, 7));
            }
        }
        C.about("Promise 3: set: -1 SHELF; -3 NOTHING; -2 a SPEAKER");
        HalfOfItFalse x = Checks.make(0, 4, 2, 1);
        for (int s : NO_SHELF) {
            due("shelf " + s, -1, x.set(s, 0, 1));
        }
        due("nothing", -3, x.set(7, 0, 1));
        x.show(7, 0);
        due("a speaker", -2, x.set(7, 0, 1));
    }

    private static void copy() {
        C.about("Promise 4: copy: -5 i or j below 0, or an end that isn't there");
        HalfOfItFalse x = new HalfOfItFalse();
        Checks.fill(x, 0, 2, 1, 2, 3);
        Checks.fill(x, 1, 2, 4, 5, 6, 7);
        due("all", 1, x.copy(0, 1, 0, 0, 3));
        due("to the end", 1, x.copy(0, 1, 0, 1, 3));
        due("the last", 1, x.copy(0, 1, 2, 3, 1));
        long[] now = {1, 1, 2, 3};
        for (int i = 0; i < 4; i++) {
            due("element " + i, now[i], x.element(1, i));
        }
        due("one more of the first", -5, x.copy(0, 1, 0, 0, 4));
        due("one more of the first", -5, x.copy(0, 1, 1, 0, 3));
        due("one more of the second", -5, x.copy(0, 1, 0, 2, 3));
        due("one more of the second", -5, x.copy(1, 0, 0, 0, 4));
        due("below", -5, x.copy(0, 1, -1, 0, 2));
        due("below", -5, x.copy(0, 1, 0, -1, 2));
        due("wrapping", -5, x.copy(0, 1, BIG, 0, 1));
        due("wrapping", -5, x.copy(0, 1, 1, 1, BIG));
        C.about("Promise 4: copy: none of them");
        due("none", 1, x.copy(0, 1, 0, 0, 0));
        due("none, at the ends", 1, x.copy(0, 1, 3, 4, 0));
        due("behind the end", -5, x.copy(0, 1, 4, 4, 0));
        due("behind the end", -5, x.copy(0, 1, 3, 5, 0));
        due("none, below", -5, x.copy(0, 1, -1, 0, 0));
        due("none, below", -5, x.copy(0, 1, 0, -1, 0));
        C.about("Promise 4: copy: -4 n");
        due("-1", -4, x.copy(0, 1, 0, 0, -1));
        due("least", -4, x.copy(0, 1, 0, 0, SMALL));
        for (int i = 0; i < 4; i++) {
            due("refused: as it was " + i, now[i], x.element(1, i));
        }
        C.about("Promise 4: copy: -2 also of two SORTS (when both hold something); -3 either");
        for (int sort = 0; sort <= 3; sort++) {
            x.row(2, sort, 3);
            due("ints and sort " + sort, sort == 2 ? 1 : -2, x.copy(0, 2, 0, 0, 3));
            due("sort and ints " + sort, sort == 2 ? 1 : -2, x.copy(2, 0, 0, 0, 3));
            due("sort " + sort + " and nothing", -3, x.copy(2, 7, 0, 0, 0));
            due("nothing and sort " + sort, -3, x.copy(7, 2, 0, 0, 0));
        }
    }

    private static void copyAsTheyWere() {
        C.about("Promise 4: copy: (as they were ahead)");
        for (int by = -3; by <= 3; by++) {
            HalfOfItFalse x = new HalfOfItFalse();
            Checks.fill(x, 5, 0, 10, 11, 12, 13, 14, 15, 16, 17);
            int from = by < 0 ? 3 : 0;
            due("by " + by, 1, x.copy(5, 5, from, from + by, 5));
            for (int i = 0; i < 8; i++) {
                boolean came = i >= from + by && i < from + by + 5;
                due("element " + i + " by " + by, came ? 10 + i - by : 10 + i, x.element(5, i));
            }
        }
        HalfOfItFalse x = new HalfOfItFalse();
        x.row(0, 3, 160);
        for (int i = 0; i < 160; i++) {
            x.set(0, i, i);
        }
        due("all by one", 1, x.copy(0, 0, 0, 1, 159));
        for (int i = 0; i < 160; i++) {
            due("element " + i, Math.max(0, i - 1), x.element(0, i));
        }
    }

    private static void element() {
        C.about("Promise 5: element: 0 if there is none (nothing is refused)");
        HalfOfItFalse x = Checks.make(0, 4, 2, 1);
        Checks.fill(x, 0, 3, 5, Long.MIN_VALUE, Long.MAX_VALUE);
        due("first", 5, x.element(0, 0));
        due("least", Long.MIN_VALUE, x.element(0, 1));
        due("last", Long.MAX_VALUE, x.element(0, 2));
        for (int i : new int[] {-1, 3, 160, SMALL, BIG}) {
            due("element " + i, 0, x.element(0, i));
        }
        for (int s : NO_SHELF) {
            due("shelf " + s, 0, x.element(s, 0));
        }
        due("nothing", 0, x.element(1, 0));
        x.show(0, 0);
        due("a speaker where a row was", 0, x.element(0, 0));
        for (int r = 11; r <= 17; r++) {
            due("refused", 0, x.status(r));
        }
    }

    private static void show() {
        C.about("Promise 6: show: 1; speaker NONE 0; -1");
        HalfOfItFalse x = new HalfOfItFalse();
        due("no speaker yet", -1, x.show(0, 0));
        due("none", 0, x.show(0, -1));
        for (int s = 0; s < 6; s++) {
            x.speaker(s, 0);
            due("the last", 1, x.show(0, s));
            due("one more", -1, x.show(0, s + 1));
            due("as it was", s, x.holds(0));
        }
        for (int none : new int[] {-2, 6, SMALL, BIG}) {
            due("speaker " + none, -1, x.show(0, none));
        }
        for (int s : NO_SHELF) {
            due("shelf " + s, -1, x.show(s, 0));
            due("shelf " + s, -1, x.show(s, -1));
        }
        due("shelf 7", 1, x.show(7, 0));
        due("none", 0, x.show(7, -1));
    }

    private static void holds() {
        C.about("Promise 7: holds: NONE NOTHING, or no such SHELF; a SPEAKER; 100 and the SORT");
        HalfOfItFalse x = Checks.make(0, 4, 2, 0, 1, 2, 3, 4, 5);
        for (int s = 0; s < 8; s++) {
            due("nothing", -1, x.holds(s));
        }
        for (int s = 0; s < 6; s++) {
            x.show(7, s);
            due("speaker", s, x.holds(7));
        }
        for (int sort = 0; sort <= 3; sort++) {
            x.row(7, sort, 0);
            due("sort", 100 + sort, x.holds(7));
        }
        x.show(7, -1);
        due("nothing again", -1, x.holds(7));
        for (int s : NO_SHELF) {
            due("shelf " + s, -1, x.holds(s));
        }
        due("refused", 0, x.status(11));
    }

    private static void says() {
        C.about("Promise 8: says: -1 SHELF, KIND; -2 also a SPEAKER of another KIND; -3");
        HalfOfItFalse x = Checks.make(0, 4, 2, 0, 3, 5, 6);
        for (int s = 0; s < 4; s++) {
            x.show(s, s);
        }
        int[][] is = {{0}, {0, 1, 3}, {0, 4, 5}, {0, 6}};
        for (int s = 0; s < 4; s++) {
            int refused = 0;
            for (int kind = 0; kind <= 6; kind++) {
                refused += x.says(s, kind) == -2 ? 1 : 0;
            }
            due("of other kinds", 7 - is[s].length, refused);
            for (int kind : is[s]) {
                due("of its kinds", 1, x.says(s, kind) >= 0 ? 1 : 0);
            }
        }
        due("kind -1", -1, x.says(0, -1));
        due("kind 7", -1, x.says(0, 7));
        for (int s : NO_SHELF) {
            due("shelf " + s, -1, x.says(s, 0));
        }
        due("nothing", -3, x.says(4, 0));
        x.row(4, 0, 0);
        due("a row", -2, x.says(4, 0));
    }

    private static void saysWithoutEnd() {
        C.about("Promise 8: says: 1 if the next one would be true, 0 if not (as if a day had no end)");
        saysOfADay(1, 0, "11111000000");
        saysOfADay(2, 0, "00000111111");
        saysOfADay(3, 0, "11110000010");
        saysOfADay(4, 341, "10101010100");
        saysOfADay(5, 341, "01010101011");
        saysOfADay(4, 1023, "11111111110");
        saysOfADay(5, 1023, "00000000001");
        C.about("Promise 8: says: SPEAKER how many they have said; PAIRS how many whole pairs");
        HalfOfItFalse x = Checks.make(1, 10, 5, 0, 6);
        x.show(0, 0);
        x.show(7, 1);
        for (int i = 0; i <= 10; i++) {
            due("how many", i, x.says(0, 0));
            due("how many of PAIRS", i, x.says(7, 0));
            due("whole pairs", i / 2, x.says(7, 6));
            x.say(0, 0, i % 2 == 0);
            x.say(1, 0, i % 2 == 0);
        }
        due("how many", 10, x.says(0, 0));
        x.sunset();
        due("of another day", 0, x.says(0, 0));
        due("of another day", 0, x.says(7, 6));
    }

    /** Of ten sayings a day, five of them true: numbers 0 to 9, and what would be number 10. */
    private static void saysOfADay(int kind, int a, String row) {
        HalfOfItFalse x = new HalfOfItFalse();
        x.fact(0);
        x.law(10, 5);
        x.speaker(kind, a);
        x.show(6, 0);
        x.known(0, true);
        for (int i = 0; i <= 10; i++) {
            int truth = row.charAt(i) - '0';
            due("number " + i + " of kind " + kind, truth, x.says(6, kind));
            due("how many", i, x.says(6, 0));
            if (kind == 3 || kind == 5) {
                int above = kind == 3 ? 1 : 4;
                due("number " + i + " as the KIND above", truth, x.says(6, above));
            }
            due("say", i < 10 ? 1 : -6, x.say(0, 0, truth == 1));
        }
    }

    private static void fact() {
        C.about("Promise 9: fact: -6 HARM; -7 more than 6");
        HalfOfItFalse x = new HalfOfItFalse();
        for (int f = 0; f < 6; f++) {
            due("-1", -6, x.fact(-1));
            due("100", -6, x.fact(100));
            due("fact", f, x.fact(f % 2 == 0 ? 0 : 99));
        }
        due("a seventh", -7, x.fact(0));
        due("a seventh", -7, x.fact(99));
        due("facts", 6, x.status(0));
        due("worlds", -1, x.worlds());
    }

    private static void speaker() {
        C.about("Promise 10: speaker: -1 KIND; -6 a; -7 more than 6");
        HalfOfItFalse x = new HalfOfItFalse();
        for (int s = 0; s < 6; s++) {
            due("kind -1", -1, x.speaker(-1, 0));
            due("kind 7", -1, x.speaker(7, 0));
            due("a -1", -6, x.speaker(6, -1));
            due("a 1024", -6, x.speaker(0, 1024));
            due("speaker", s, x.speaker(s, s % 2 == 0 ? 0 : 1023));
        }
        due("a seventh", -7, x.speaker(0, 0));
        due("speakers", 6, x.status(1));
    }

    private static void law() {
        C.about("Promise 11: law: 100 times N and T as they were; -6");
        HalfOfItFalse x = Checks.make(1, 2, 0, 0);
        due("2 0", 200, x.law(2, 2));
        due("2 2", 202, x.law(10, 0));
        due("10 0", 1000, x.law(10, 10));
        for (int[] no : new int[][] {{1, 1}, {11, 1}, {2, 3}, {10, 11}, {2, -1}, {BIG, 0}, {4, BIG}}) {
            due("law " + no[0] + " " + no[1], -6, x.law(no[0], no[1]));
        }
        due("as it was", 1010, x.law(3, 1));
        C.about("Promise 11: law: -6 also while there are SAYINGS");
        x.say(0, 0, true);
        due("one", -6, x.law(3, 1));
        x.unsay();
        due("none", 301, x.law(3, 2));
        x.say(0, 0, true);
        x.sunset();
        due("none at sunset", 302, x.law(2, 1));
    }

    private static void speakerOf() {
        C.about("Promise 12: speakerOf: -5: no such one, another what");
        HalfOfItFalse x = Checks.make(1, 10, 10, 1, 6);
        for (int i = 0; i <= 10; i++) {
            due("sayings today", i, x.speakerOf(0, 2));
            x.say(0, 0, true);
        }
        due("kind", 6, x.speakerOf(1, 0));
        due("a", 5, x.speakerOf(1, 1));
        due("none said", 0, x.speakerOf(1, 2));
        for (int s : new int[] {-1, 2, 6, SMALL, BIG}) {
            due("speaker " + s, -5, x.speakerOf(s, 0));
        }
        for (int what : new int[] {-1, 3, SMALL, BIG}) {
            due("what " + what, -5, x.speakerOf(1, what));
        }
        due("counted as -5", 9, x.status(15));
        due("not as -1", 0, x.status(11));
    }

    private static void harm() {
        C.about("Promise 13: harm: what it was; -1; -6");
        HalfOfItFalse x = new HalfOfItFalse();
        due("no fact", -1, x.harm(0, 0));
        x.fact(50);
        due("0", 50, x.harm(0, 0));
        due("99", 0, x.harm(0, 99));
        due("100", -6, x.harm(0, 100));
        due("-1", -6, x.harm(0, -1));
        due("as it was", 99, x.harm(0, 98));
        due("the next", -1, x.harm(1, 0));
        due("below", -1, x.harm(-1, 0));
    }

    private static void say() {
        C.about("Promise 14: say: WORLDS then; -6 their day is full, it CAN'T be; -7");
        HalfOfItFalse x = Checks.make(6, 2, 1, 1, 1, 1, 1, 1, 1);
        for (int s = 0; s < 6; s++) {
            due("halved", 32 >> s, x.say(s, s, true));
        }
        due("one is left", 1, x.many());
        due("it can't be", -6, x.say(0, 0, true));
        due("it can", 1, x.say(0, 0, false));
        due("full", -6, x.say(0, 0, true));
        due("full", -6, x.say(0, 0, false));
        C.about("Promise 14: say: -7 a 25th");
        HalfOfItFalse y = full(1);
        due("no room", -7, y.say(3, 0, true));
        due("full, no room", -6, y.say(0, 0, true));
        y.unsay();
        due("room for one", 1, y.say(3, 0, true));
        due("no room", -7, y.say(3, 0, true));
        due("it can't be, no room", -6, y.say(3, 0, false));
        due("so many", 24, y.status(2));
        C.about("Promise 14: say: -1");
        for (int none : new int[] {-1, 6, SMALL, BIG}) {
            due("speaker " + none, -1, x.say(none, 0, true));
            due("fact " + none, -1, x.say(1, none, true));
        }
    }

    private static void unsay() {
        C.about("Promise 15: unsay: how many are left; -6 there is none");
        HalfOfItFalse x = full(1);
        for (int i = 23; i >= 0; i--) {
            due("unsay", i, x.unsay());
            due("gone", -1, x.sayingOf(i));
            due("of that speaker", i / 8 == 0 ? i : i / 8 == 1 ? i - 8 : i - 16, x.speakerOf(i / 8, 2));
        }
        due("none", -6, x.unsay());
        due("none", -6, x.unsay());
        due("all worlds", 3, x.worlds());
        x.say(3, 0, true);
        x.sunset();
        due("not those of yesterday", -6, x.unsay());
    }

    private static void sayingOf() {
        C.about("Promise 16: sayingOf: NONE: no such one (nothing is refused)");
        HalfOfItFalse x = Checks.make(6, 10, 5, 0, 0, 0, 0, 0, 0);
        due("none yet", -1, x.sayingOf(0));
        x.say(0, 0, false);
        x.say(5, 5, true);
        due("the least", 0, x.sayingOf(0));
        due("the greatest", 551, x.sayingOf(1));
        for (int i : new int[] {-1, 2, 23, 24, 48, SMALL, BIG}) {
            due("none: " + i, -1, x.sayingOf(i));
        }
        due("refused", 0, x.status(15));
        HalfOfItFalse y = full(1);
        due("the 24th", 200, y.sayingOf(23));
        due("no 25th", -1, y.sayingOf(24));
    }

    private static void known() {
        C.about("Promise 17: known: how many; -6 none would be; -1");
        HalfOfItFalse x = Checks.make(6, 4, 2, 1);
        for (int f = 0; f < 6; f++) {
            due("known", 32 >> f, x.known(f, f % 2 == 0));
            due("the other", -6, x.known(f, f % 2 != 0));
            due("again", 32 >> f, x.known(f, f % 2 == 0));
        }
        due("one", 1L << 0b010101, x.worlds());
        due("no fact", -1, x.known(6, true));
        due("no fact", -1, x.known(-1, true));
        HalfOfItFalse y = Checks.make(2, 4, 2, 1);
        y.say(0, 0, true);
        due("none by what was said", -6, y.known(0, false));
        due("how many are left", 2, y.known(0, true));
        y.unsay();
        due("left by what is known", 0b1010, y.worlds());
    }

    private static void town() {
        C.about("Promise 18: town: how many ITEMS; -6 a FAULT; -1; -2; -3");
        HalfOfItFalse x = new HalfOfItFalse();
        C.good(x, "fact 1", 1);
        C.good(x, "fact 1;fact 1", 2);
        C.good(x, "law 2 2;law 2 2;law 2 2;law 2 2;law 2 2;law 2 2;law 2 2", 7);
        C.bad(x, "", 0);
        C.bad(x, "fact 1;", 7);
        due("nothing", -3, x.town(7));
        x.speaker(0, 0);
        x.show(7, 0);
        due("a speaker", -2, x.town(7));
        for (int s : NO_SHELF) {
            due("shelf " + s, -1, x.town(s));
        }
        due("facts", 3, x.status(0));
    }

    private static void fault() {
        C.about("Promise 19: fault: NONE: there was none, or none yet");
        HalfOfItFalse x = Checks.make(0, 4, 2, 1);
        due("none yet", -1, x.fault());
        x.town(-1);
        x.town(0);
        x.show(0, 0);
        x.town(0);
        due("came to no row", -1, x.fault());
        x.row(0, 0, 160);
        due("a row without letters", -6, x.town(0));
        due("fault", 0, x.fault());
        C.good(x, "fact 1", 1);
        C.bad(x, "fact 1;", 7);
        x.town(8);
        x.town(7);
        due("the latest that came to a row", 7, x.fault());
        C.good(x, "fact 1", 1);
        due("none of the latest", -1, x.fault());
        C.bad(x, "law 2 0;law 2 0;law 2 0;law 2 0;law 2 0;law 2 0;law 2 0;law 2 0;law 2 0;law 2 0;"
                + "law 2 0;law 2 0;law 2 0;law 2 0;law 2 0;law 2 0;law 2 0;law 2 0;law 2 0;law 2 0;", 160);
    }

    private static void canBe() {
        C.about("Promise 20: canBe: 1, 0; -1");
        HalfOfItFalse x = Checks.make(6, 4, 2, 1, 0);
        x.say(0, 5, true);
        due("in the last", 1, x.canBe(0, 63));
        due("in the first of them", 1, x.canBe(0, 32));
        due("in the last of the others", 0, x.canBe(0, 31));
        due("in the first", 0, x.canBe(0, 0));
        due("who said nothing", 1, x.canBe(1, 0));
        for (int none : new int[] {-1, 64, 65, 95, 128, SMALL, BIG}) {
            due("world " + none, -1, x.canBe(0, none));
        }
        for (int none : new int[] {-1, 2, 6, SMALL, BIG}) {
            due("speaker " + none, -1, x.canBe(none, 0));
        }
    }

    private static void can() {
        C.about("Promise 21: can: (0, if their day is full)");
        HalfOfItFalse x = Checks.make(1, 2, 1, 6);
        // Truly, falsely, that it is so, that it isn't: the second of a pair is but the other.
        int[][] can = {{1, 1, 1, 1}, {1, 1, 0, 1}, {0, 0, 0, 0}};
        for (int said = 0; said < 3; said++) {
            for (int what = 0; what <= 3; what++) {
                due("what " + what + " after " + said, can[said][what], x.can(0, 0, what));
            }
            x.say(0, 0, said == 0);
        }
        C.about("Promise 21: can: truly, or falsely, alone, up to their day's end");
        String[] rows = {"1100", "0011"};
        for (int turn = 0; turn < 2; turn++) {
            HalfOfItFalse z = Checks.make(1, 4, 2, 1 + turn);
            z.known(0, true);
            for (int i = 0; i <= 4; i++) {
                boolean truth = i < 4 && rows[turn].charAt(i) == '1';
                due("truly, number " + i, truth ? 1 : 0, z.can(0, 0, 1));
                due("falsely, number " + i, i < 4 && !truth ? 1 : 0, z.can(0, 0, 0));
                z.say(0, 0, truth);
            }
        }
        C.about("Promise 21: can: -5 another what; -1");
        for (int what : new int[] {-1, 4, SMALL, BIG}) {
            due("what " + what, -5, x.can(0, 0, what));
        }
        for (int none : new int[] {-1, 1, SMALL, BIG}) {
            due("speaker " + none, -1, x.can(none, 0, 0));
            due("fact " + none, -1, x.can(0, none, 0));
        }
        C.about("Promise 21: can: room isn't asked");
        HalfOfItFalse y = full(1);
        due("truly", 1, y.can(3, 0, 1));
        due("falsely", 0, y.can(3, 0, 0));
        due("that it is so", 1, y.can(3, 0, 2));
        due("that it isn't", 1, y.can(3, 0, 3));
        due("full", 0, y.can(0, 0, 1));
    }

    private static void worlds() {
        C.about("Promises 22, 23: worlds (bits), many: of no FACTS, of 6, of one");
        HalfOfItFalse x = new HalfOfItFalse();
        for (int f = 0; f <= 6; f++) {
            due("worlds", f == 6 ? -1L : (1L << (1 << f)) - 1, x.worlds());
            due("many", 1 << f, x.many());
            x.fact(0);
        }
        for (int f = 0; f < 6; f++) {
            x.known(f, true);
        }
        due("the last alone", Long.MIN_VALUE, x.worlds());
        due("one", 1, x.many());
    }

    private static void sure() {
        C.about("Promise 24: sure: 1 so, 0 not so, NONE; -11 (counted as -1)");
        HalfOfItFalse x = Checks.make(6, 4, 2);
        due("not sure", -1, x.sure(5));
        x.known(5, true);
        x.known(0, false);
        due("so", 1, x.sure(5));
        due("not so", 0, x.sure(0));
        due("none is counted", 0, x.status(11));
        int count = 0;
        for (int none : new int[] {-1, 6, SMALL, BIG}) {
            due("fact " + none, -11, x.sure(none));
            count++;
            due("counted as -1", count, x.status(11));
        }
    }

    private static void sures() {
        C.about("Promise 25: sures: FACTS (bits) that are SURE: none, the last, all");
        HalfOfItFalse x = Checks.make(6, 4, 2);
        due("none", 0, x.sures());
        x.known(5, false);
        due("the last", 32, x.sures());
        for (int f = 0; f < 5; f++) {
            x.known(f, true);
        }
        due("all", 63, x.sures());
        due("of no facts", 0, new HalfOfItFalse().sures());
    }

    private static void shown() {
        C.about("Promise 26: shown: -5 it isn't SURE; -1; by none, by all of 24");
        HalfOfItFalse x = full(1);
        due("it isn't sure", -5, x.shown(0));
        x.unsay();
        x.say(3, 0, true);
        due("by the last of 24", 24, x.shown(0));
        x.known(0, true);
        due("by none", 0, x.shown(0));
        due("no fact", -1, x.shown(1));
        due("no fact", -1, x.shown(-1));
    }

    private static void proof() {
        C.about("Promise 27: proof: -7 more than 10 SAYINGS; -5 it isn't SURE; -1");
        HalfOfItFalse x = Checks.make(1, 10, 5, 0, 0, 1);
        for (int i = 0; i < 10; i++) {
            x.say(0, 0, i % 2 == 0);
            due("it isn't sure, of " + (i + 1), -5, x.proof(0));
        }
        x.unsay();
        x.say(2, 0, true);
        due("of ten", 1, x.proof(0));
        x.say(2, 0, true);
        due("of eleven", -7, x.proof(0));
        x.unsay();
        due("of ten", 1, x.proof(0));
        x.known(0, true);
        due("by none", 0, x.proof(0));
        x.say(1, 0, true);
        due("of eleven, though none is wanted", -7, x.proof(0));
        due("no fact", -1, x.proof(1));
        due("no fact", -1, x.proof(-1));
    }

    private static void worst() {
        C.about("Promise 28: worst: -6 their day is full; -1");
        HalfOfItFalse x = Checks.make(1, 2, 1, 6);
        due("of two", 2, x.worst(0, 0));
        x.say(0, 0, true);
        due("one left", 2, x.worst(0, 0));
        x.say(0, 0, false);
        due("full", -6, x.worst(0, 0));
        for (int none : new int[] {-1, 1, SMALL, BIG}) {
            due("speaker " + none, -1, x.worst(none, 0));
            due("fact " + none, -1, x.worst(0, none));
        }
        C.about("Promise 28: worst: of all, of one");
        due("64", 64, Checks.make(6, 4, 2, 0).worst(0, 5));
        due("32", 32, Checks.make(6, 4, 2, 1).worst(0, 5));
        HalfOfItFalse y = Checks.make(1, 2, 1, 1);
        y.known(0, true);
        due("1 and 0", 1, y.worst(0, 0));
        due("room isn't asked", 1, full(1).worst(3, 0));
    }

    private static void next() {
        C.about("Promise 29: next: -5 there is no QUESTION");
        HalfOfItFalse x = new HalfOfItFalse();
        due("neither", -5, x.next());
        x.speaker(6, 0);
        due("no facts", -5, x.next());
        x.fact(0);
        due("the first", 0, x.next());
        x.law(2, 1);
        x.say(0, 0, true);
        due("one left", 0, x.next());
        x.say(0, 0, false);
        due("their day is full", -5, x.next());
        x.speaker(6, 0);
        due("another", 10, x.next());
        x.sunset();
        due("another day", 0, x.next());
        due("no speakers", -5, Checks.make(6, 4, 2).next());
    }

    private static void knows() {
        C.about("Promise 30: knows: -6 k; -1");
        HalfOfItFalse x = Checks.make(2, 4, 2, 6);
        x.known(0, true);
        due("k -1", -6, x.knows(1, -1));
        due("k 0", 0, x.knows(1, 0));
        due("k 1", 0, x.knows(1, 1));
        due("k 2", 1, x.knows(1, 2));
        due("k 3", -6, x.knows(1, 3));
        due("sure", 1, x.knows(0, 0));
        due("sure, k 3", -6, x.knows(0, 3));
        for (int none : new int[] {-1, 2, SMALL, BIG}) {
            due("fact " + none, -1, x.knows(none, 0));
        }
    }

    private static void tree() {
        C.about("Promise 31: tree: 0 to 2; NONE; -11 (counted as -1)");
        HalfOfItFalse x = Checks.make(2, 4, 2, 0, 6, 1);
        x.known(0, true);
        due("0", 0, x.tree(0));
        due("1", 1, x.tree(1));
        HalfOfItFalse y = Checks.make(2, 4, 2, 0, 6);
        y.known(0, true);
        due("2", 2, y.tree(1));
        HalfOfItFalse z = Checks.make(2, 4, 2, 0);
        z.known(0, true);
        due("none", -1, z.tree(1));
        int count = 0;
        for (int none : new int[] {-1, 2, SMALL, BIG}) {
            due("fact " + none, -11, z.tree(none));
            count++;
            due("counted as -1", count, z.status(11));
        }
    }

    private static void rows() {
        C.about("Promise 32: rows: of m SAYINGS, 0 to N; -6; -1");
        HalfOfItFalse x = Checks.make(0, 10, 5, 0, 6, 1);
        due("m 0", 1, x.rows(0, 0));
        due("m 10", 252, x.rows(0, 10));
        due("m 0", 1, x.rows(1, 0));
        due("m 10", 32, x.rows(1, 10));
        due("m 10", 1, x.rows(2, 10));
        due("m 11", -6, x.rows(0, 11));
        due("m -1", -6, x.rows(0, -1));
        x.law(2, 0);
        due("m 2", 1, x.rows(0, 2));
        due("m 3", -6, x.rows(0, 3));
        due("m most", -6, x.rows(1, BIG));
        for (int none : new int[] {-1, 3, SMALL, BIG}) {
            due("speaker " + none, -1, x.rows(none, 0));
        }
    }

    private static void tells() {
        C.about("Promise 33: tells: x messages (1 to 1024); NONE: by none; -11; -16");
        HalfOfItFalse x = Checks.make(0, 10, 5, 0, 6, 1);
        due("x 0", -16, x.tells(0, 0));
        due("x 1", 0, x.tells(0, 1));
        due("x 2", 1, x.tells(0, 2));
        due("x 252", 9, x.tells(0, 252));
        due("x 253", -1, x.tells(0, 253));
        due("x 1024", -1, x.tells(0, 1024));
        due("x 1025", -16, x.tells(0, 1025));
        due("pairs, x 32", 9, x.tells(1, 32));
        due("pairs, x 33", -1, x.tells(1, 33));
        due("kind, x 1", 0, x.tells(2, 1));
        due("kind, x 2", -1, x.tells(2, 2));
        due("counted as -6", 2, x.status(16));
        for (int none : new int[] {-1, 3, SMALL, BIG}) {
            due("speaker " + none, -11, x.tells(none, 1));
        }
        due("counted as -1", 4, x.status(11));
    }

    private static void errands() {
        C.about("Promise 34: errands: -6 more than 10 elements, a; -1; -2; -3");
        HalfOfItFalse x = Checks.make(1, 10, 0, 1);
        for (int n : new int[] {0, 1, 9, 10}) {
            x.row(0, 3, n);
            due("of " + n, n, x.errands(0, 0));
            due("of " + n + ", ten idle", 0, x.errands(0, 10));
            due("a -1", -6, x.errands(0, -1));
            due("a 11", -6, x.errands(0, 11));
        }
        for (int n : new int[] {11, 12, 160}) {
            x.row(0, 3, n);
            due("of " + n, -6, x.errands(0, 0));
        }
        due("nothing", -3, x.errands(1, 0));
        x.show(1, 0);
        due("a speaker", -2, x.errands(1, 0));
        for (int s : NO_SHELF) {
            due("shelf " + s, -1, x.errands(s, 0));
        }
    }

    private static void placed() {
        C.about("Promise 35: placed: -6 likewise; -1; -2; -3");
        HalfOfItFalse x = Checks.make(1, 10, 0, 1);
        for (int n : new int[] {0, 1, 9, 10}) {
            x.row(0, 3, n);
            due("of " + n, (1 << n) - 1, x.placed(0, 0));
            due("of " + n + ", ten idle", 0, x.placed(0, 10));
            due("a -1", -6, x.placed(0, -1));
            due("a 11", -6, x.placed(0, 11));
        }
        for (int n : new int[] {11, 12, 160}) {
            x.row(0, 3, n);
            due("of " + n, -6, x.placed(0, 0));
        }
        due("nothing", -3, x.placed(1, 0));
        x.show(1, 0);
        due("a speaker", -2, x.placed(1, 0));
        for (int s : NO_SHELF) {
            due("shelf " + s, -1, x.placed(s, 0));
        }
    }

    private static void trust() {
        C.about("Promise 36: trust (may be below 0): -1000001; -1000006 their day is full");
        HalfOfItFalse x = Checks.make(6, 2, 0, 0, 1, 6);
        due("all falsely", -64, x.trust(0));
        due("none truly", 0, x.trust(1));
        due("as many", 0, x.trust(2));
        x.known(0, true);
        x.say(0, 0, false);
        due("one left", -32, x.trust(0));
        x.say(0, 0, false);
        due("full", -1000006, x.trust(0));
        due("counted as -6", 1, x.status(16));
        for (int none : new int[] {-1, 3, SMALL, BIG}) {
            due("speaker " + none, -1000001, x.trust(none));
        }
        due("counted as -1", 4, x.status(11));
        due("room isn't asked", 2, full(1).trust(3));
    }

    private static void witness() {
        C.about("Promise 37: witness: -5 no SPEAKERS");
        HalfOfItFalse x = new HalfOfItFalse();
        due("none", -5, x.witness());
        for (int s = 0; s < 6; s++) {
            x.speaker(1, 0);
            due("of several the first", 0, x.witness());
        }
        x.fact(0);
        x.say(5, 0, true);
        due("the last", 5, x.witness());
    }

    private static void judge() {
        C.about("Promise 38: judge: the first n elements (0 to 24): -4 n; -5 fewer; -6 n above 24");
        HalfOfItFalse x = Checks.make(1, 10, 5, 0, 0, 0);
        x.row(0, 2, 26);
        for (int i = 0; i < 26; i++) {
            x.set(0, i, i < 24 ? 100 * (i / 8) + i % 2 : -1);
        }
        due("n 0", -1, x.judge(0, 0));
        due("n 1", -1, x.judge(0, 1));
        due("n 24", -1, x.judge(0, 24));
        due("n 25", -6, x.judge(0, 25));
        due("n 26", -6, x.judge(0, 26));
        due("n 27", -5, x.judge(0, 27));
        due("n -1", -4, x.judge(0, -1));
        due("n least", -4, x.judge(0, SMALL));
        due("n most", -5, x.judge(0, BIG));
        x.set(0, 0, -1);
        due("the first", 0, x.judge(0, 24));
        due("none is asked", -1, x.judge(0, 0));
        x.row(0, 2, 0);
        due("of none", -1, x.judge(0, 0));
        due("of none", -5, x.judge(0, 1));
        due("nothing", -3, x.judge(1, 0));
        x.show(1, 0);
        due("a speaker", -2, x.judge(1, 0));
        for (int s : NO_SHELF) {
            due("shelf " + s, -1, x.judge(s, 0));
        }
    }

    private static void sunset() {
        C.about("Promise 39: sunset: how many WORLDS are LEFT: all, some, one; of a full day");
        HalfOfItFalse x = Checks.make(6, 4, 2, 1);
        due("all", 64, x.sunset());
        x.say(0, 0, true);
        due("half", 32, x.sunset());
        for (int f = 1; f < 6; f++) {
            x.known(f, true);
        }
        due("one", 1, x.sunset());
        due("days", 3, x.status(6));
        HalfOfItFalse y = full(1);
        due("of 24", 2, y.sunset());
        due("none said", 0, y.status(2));
        due("left", 3, y.worlds());
        due("a new day", 1, y.say(0, 0, true) > 0 ? 1 : 0);
    }

    private static void draw() {
        C.about("Promise 40: draw: how many WORLDS there are: 1 to 64; SEED goes on also for one");
        HalfOfItFalse x = new HalfOfItFalse();
        int seed = 1;
        for (int f = 0; f <= 6; f++) {
            due("draw", 1 << f, x.draw());
            seed = seed * 1103515245 + 12345;
            due("seed", seed, x.status(7));
            x.fact(0);
        }
        x.speaker(1, 0);
        x.say(0, 0, true);
        due("of what is left today", 32, x.draw());
        due("one of them", 1, x.sure(0));
        int drawn = 0;
        for (int w = 1; w < 64; w += 2) {
            drawn += x.truly(w);
        }
        due("one in which it is so", 1, drawn);
    }

    private static void ask() {
        C.about("Promise 41: ask: -6 their day is full, nothing is drawn, CAN'T be; -7; -1");
        HalfOfItFalse x = Checks.make(1, 2, 2, 1);
        due("nothing is drawn", -6, x.ask(0, 0));
        x.known(0, true);
        x.draw();
        due("first", 1, x.ask(0, 0));
        due("last", 1, x.ask(0, 0));
        due("full", -6, x.ask(0, 0));
        for (int none : new int[] {-1, 1, SMALL, BIG}) {
            due("speaker " + none, -1, x.ask(none, 0));
            due("fact " + none, -1, x.ask(0, none));
        }
        C.about("Promise 41: ask: 0 not; it CAN'T be any more");
        HalfOfItFalse y = Checks.make(1, 2, 2, 1);
        y.known(0, false);
        y.draw();
        due("not so", 0, y.ask(0, 0));
        due("a saying", 0, y.sayingOf(0));
        HalfOfItFalse z = Checks.make(1, 2, 2, 1);
        z.draw();
        z.known(0, z.truly(0) == 1);
        due("it can't be", -6, z.ask(0, 0));
        C.about("Promise 41: ask: -7 a 25th");
        HalfOfItFalse full = full(1);
        full.draw();
        due("no room", -7, full.ask(3, 0));
        full.unsay();
        due("room for one", 1, full.ask(3, 0) >= 0 ? 1 : 0);
        due("no room", -7, full.ask(3, 0));
        due("so many", 24, full.status(2));
    }

    private static void truly() {
        C.about("Promise 42: truly: -6 nothing is drawn; -1");
        HalfOfItFalse x = Checks.make(6, 4, 2);
        due("world 0", -6, x.truly(0));
        due("world 63", -6, x.truly(63));
        due("world 64", -1, x.truly(64));
        due("world -1", -1, x.truly(-1));
        for (int f = 0; f < 6; f++) {
            x.known(f, true);
        }
        x.draw();
        due("world 63", 1, x.truly(63));
        due("world 62", 0, x.truly(62));
        due("world 0", 0, x.truly(0));
        due("world 64", -1, x.truly(64));
        due("world 127", -1, x.truly(127));
        x.sunset();
        due("still drawn", 1, x.truly(63));
    }

    private static void seed() {
        C.about("Promise 43: seed: what it was (nothing is refused)");
        HalfOfItFalse x = new HalfOfItFalse();
        int before = 1;
        for (int v : new int[] {0, -1, SMALL, BIG, 1}) {
            due("seed", before, x.seed(v));
            due("status", v, x.status(7));
            before = v;
        }
        for (int r = 11; r <= 17; r++) {
            due("refused", 0, x.status(r));
        }
    }

    private static void act() {
        C.about("Promise 44: act: 0, and no TRACE then: no such SPEAKER, act");
        HalfOfItFalse x = Checks.make(0, 4, 2, 0, 0, 0, 0, 0, 0);
        due("the last", 12, x.act(5, 0, 7));
        due("the last", 24, x.act(5, 1, 7));
        due("the last", 24 ^ 7, x.act(5, 2, 7));
        int[][] none = {{6, 0}, {-1, 0}, {SMALL, 0}, {BIG, 0}, {0, 3}, {0, -1}, {0, SMALL}, {0, BIG}};
        for (int[] no : none) {
            x.act(5, 2, 7);
            due("ran", 4, x.status(8));
            due("act " + no[0] + " " + no[1], 0, x.act(no[0], no[1], 7));
            due("no trace", -1, x.trace(0));
            due("none ran", 0, x.status(8));
        }
        due("not refused", 0, x.status(11));
    }

    private static void trace() {
        C.about("Promise 45: trace: the i-th body. NONE: none such");
        HalfOfItFalse x = Checks.make(0, 4, 2, 0);
        due("none yet", -1, x.trace(0));
        x.act(0, 2, 0);
        int[] bodies = {12, 11, 10, 10};
        for (int i = 0; i < 4; i++) {
            due("trace " + i, bodies[i], x.trace(i));
        }
        for (int i : new int[] {-1, 4, 19, 20, SMALL, BIG}) {
            due("trace " + i, -1, x.trace(i));
        }
    }

    private static void image() {
        C.about("Promise 46: image: how many SAYINGS: none, 24; the latest alone is kept");
        HalfOfItFalse x = full(1);
        due("24", 24, x.image());
        x.unsay();
        due("still 24", 24, x.restore());
        due("the last of them", 200, x.sayingOf(23));
        x.sunset();
        due("none", 0, x.image());
        x.say(0, 0, true);
        due("none", 0, x.restore());
        due("days", 1, x.status(6));
        HalfOfItFalse y = new HalfOfItFalse();
        due("of a new object", 0, y.image());
        for (int f = 0; f < 6; f++) {
            y.fact(99);
            y.speaker(6, 1023);
        }
        y.draw();
        due("restore", 0, y.restore());
        int[] first = {0, 0, 0, 1, 4, 2, 0, 1, 0};
        for (int what = 0; what <= 8; what++) {
            due("as at first " + what, first[what], y.status(what));
        }
        due("nothing is drawn", -6, y.truly(0));
        due("room for all", 0, y.fact(3));
        due("harm", 3, y.harm(0, 3));
    }

    private static void restore() {
        C.about("Promise 47: restore: -6 there is none; all is as THE IMAGE has it");
        HalfOfItFalse x = Checks.make(3, 5, 3, 1, 4);
        due("none", -6, x.restore());
        x.known(2, true);
        x.say(0, 0, true);
        x.sunset();
        x.say(1, 1, true);
        x.seed(-7);
        x.draw();
        int drawn = 0;
        while (x.truly(drawn) == 0) {
            drawn++;
        }
        int seed = x.status(7);
        due("image", 1, x.image());
        x.unsay();
        x.law(2, 1);
        x.harm(0, 99);
        x.fact(8);
        x.speaker(0, 0);
        x.known(3, true);
        x.sunset();
        x.draw();
        for (int times = 0; times < 2; times++) {
            due("restore", 1, x.restore());
            int[] status = {3, 2, 1, 2, 5, 3, 1, seed};
            for (int what = 0; what < status.length; what++) {
                due("status " + what, status[what], x.status(what));
            }
            due("sayingOf", 111, x.sayingOf(0));
            due("said", 1, x.speakerOf(1, 2));
            due("drawn", 1, x.truly(drawn));
            due("harm", 1, x.harm(0, 50));
            x.say(0, 0, true);
        }
        due("refused once", 1, x.status(16));
    }

    private static void restoredShelves() {
        C.about("Promise 47: restore: SHELVES with SPEAKERS hold those of these numbers, or NOTHING");
        HalfOfItFalse x = Checks.make(1, 4, 2, 0, 1);
        x.image();
        for (int s = 2; s < 6; s++) {
            x.speaker(6, 0);
        }
        for (int s = 0; s < 6; s++) {
            x.show(s + 1, s);
        }
        x.show(0, 5);
        Checks.fill(x, 7, 2, 4);
        due("restore", 0, x.restore());
        int[] held = {-1, 0, 1, -1, -1, -1, -1, 102};
        for (int s = 0; s < 8; s++) {
            due("shelf " + s, held[s], x.holds(s));
        }
        due("a row is as it was", 4, x.element(7, 0));
        due("nothing", -3, x.says(3, 0));
        x.speaker(2, 0);
        due("nothing, though there is one again", -1, x.holds(3));
        HalfOfItFalse y = new HalfOfItFalse();
        y.image();
        y.speaker(1, 0);
        y.show(0, 0);
        y.restore();
        due("of none", -1, y.holds(0));
        y.speaker(6, 0);
        y.show(0, 0);
        y.image();
        y.restore();
        due("of one", 0, y.holds(0));
        due("as PAIRS", 0, y.says(0, 6));
    }

    private static void status() {
        C.about("Promise 48: status: NONE for another what");
        HalfOfItFalse x = Checks.make(6, 10, 10, 3, 3, 3, 3, 3, 3);
        x.known(0, true);
        for (int i = 0; i < 24; i++) {
            x.say(i / 4, 0, true);
        }
        x.seed(-1);
        x.act(0, 2, 1);
        int[] status = {6, 6, 24, 32, 10, 10, 0, -1, 9};
        for (int what = 0; what <= 8; what++) {
            due("status " + what, status[what], x.status(what));
        }
        for (int r = 11; r <= 17; r++) {
            due("status " + r, 0, x.status(r));
        }
        for (int what : new int[] {-1, 9, 10, 18, 19, SMALL, BIG}) {
            due("status " + what, -1, x.status(what));
        }
    }

    private static void statusOfRefusals() {
        C.about("Promise 48: status 11 to 17: REFUSALS -1 to -7, each by itself");
        HalfOfItFalse x = Checks.make(1, 4, 2, 1);
        for (int r = 1; r <= 7; r++) {
            for (int times = 0; times < r; times++) {
                due("refused", -r, refused(x, r));
            }
            for (int of = 1; of <= 7; of++) {
                due("count of " + of, of <= r ? of : 0, x.status(10 + of));
            }
        }
    }

    private static int refused(HalfOfItFalse x, int number) {
        switch (number) {
            case 1:
                return x.harm(-1, 0);
            case 2:
                x.show(0, 0);
                return x.set(0, 0, 0);
            case 3:
                return x.set(7, 0, 0);
            case 4:
                return x.row(0, 0, -1);
            case 5:
                return x.speakerOf(9, 0);
            case 6:
                return x.law(0, 0);
            default:
                return x.row(0, 0, 161);
        }
    }
}
