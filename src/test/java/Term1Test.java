/** Term 1, THE TOWN, but for its texts: each sentence that names a bound, up to it and beyond. */
public final class Term1Test {
    private static final Checks C = new Checks();

    public static void main(String[] args) {
        sixFacts();
        harms();
        worldNumbers();
        soAndNotSo();
        law();
        sixSpeakers();
        kinds();
        kindsUnderKinds();
        marks();
        sayings();
        aDayOfEachLength();
        aDayOfEachSpeaker();
        leftAtFirst();
        aFactMore();
        leftAtSunset();
        C.end();
    }

    private static void due(String call, long want, long got) {
        C.due(call, want, got);
    }

    private static void sixFacts() {
        C.about("Term 1: FACTS have numbers, from 0 on, 6 at most");
        HalfOfItFalse x = new HalfOfItFalse();
        due("no fact 0 yet", -11, x.sure(0));
        for (int f = 0; f < 6; f++) {
            due("fact", f, x.fact(50));
            due("it is there", -1, x.sure(f));
            due("the next isn't", -11, x.sure(f + 1));
            due("none below 0", -11, x.sure(-1));
        }
        due("a seventh", -7, x.fact(50));
        due("six", 6, x.status(0));
        due("no fact 6", -11, x.sure(6));
    }

    private static void harms() {
        C.about("Term 1: HARM (0 to 99)");
        HalfOfItFalse x = new HalfOfItFalse();
        due("fact", -6, x.fact(-1));
        due("fact", 0, x.fact(0));
        due("fact", 1, x.fact(99));
        due("fact", -6, x.fact(100));
        due("fact", -6, x.fact(Integer.MIN_VALUE));
        due("fact", -6, x.fact(Integer.MAX_VALUE));
        due("two", 2, x.status(0));
        due("harm", 0, x.harm(0, 99));
        due("harm", -6, x.harm(0, 100));
        due("harm", 99, x.harm(0, 0));
        due("harm", -6, x.harm(0, -1));
        due("harm", 0, x.harm(0, 1));
        due("harm of the other", 99, x.harm(1, 98));
    }

    private static void worldNumbers() {
        C.about("Term 1: a WORLD is a number, 0 to 2 to the power of how many FACTS, less 1");
        for (int facts = 0; facts <= 6; facts++) {
            HalfOfItFalse x = Checks.make(facts, 4, 2, 0);
            int last = (1 << facts) - 1;
            due("worlds of " + facts, facts == 6 ? -1L : (1L << last + 1) - 1, x.worlds());
            due("many of " + facts, last + 1, x.many());
            x.draw();
            int drawn = 0;
            for (int w = 0; w <= last; w++) {
                due("can be in " + w, 1, x.canBe(0, w));
                drawn += x.truly(w);
            }
            due("just one is drawn", 1, drawn);
            for (int none : new int[] {-1, last + 1, last + 64, Integer.MIN_VALUE, 1 << 30}) {
                due("no world " + none + " of " + facts, -1, x.canBe(0, none));
                due("no world " + none + " of " + facts, -1, x.truly(none));
            }
        }
    }

    private static void soAndNotSo() {
        C.about("Term 1: bit f of a WORLD is 1, if FACT f is so");
        for (int f = 0; f < 6; f++) {
            HalfOfItFalse x = Checks.make(6, 4, 2);
            due("so", 32, x.known(f, true));
            due("so", Checks.worldsWith(6, f), x.worlds());
            HalfOfItFalse y = Checks.make(6, 4, 2);
            due("not so", 32, y.known(f, false));
            due("not so", ~Checks.worldsWith(6, f), y.worlds());
        }
    }

    private static void law() {
        C.about("Term 1: N sayings a day (2 to 10; 4 at first), T are true (0 to N; 2 at first)");
        HalfOfItFalse x = new HalfOfItFalse();
        due("N at first", 4, x.status(4));
        due("T at first", 2, x.status(5));
        int before = 402;
        for (int n = 2; n <= 10; n++) {
            for (int t = 0; t <= n; t++) {
                due("law", before, x.law(n, t));
                before = 100 * n + t;
            }
            due("T below 0", -6, x.law(n, -1));
            due("T above N", -6, x.law(n, n + 1));
        }
        for (int n : new int[] {-1, 0, 1, 11, 12, Integer.MIN_VALUE, Integer.MAX_VALUE}) {
            due("N " + n, -6, x.law(n, 0));
            due("N " + n, -6, x.law(n, n));
        }
        due("N", 10, x.status(4));
        due("T", 10, x.status(5));
    }

    private static void sixSpeakers() {
        C.about("Term 1: SPEAKERS have numbers, from 0 on, 6 at most");
        HalfOfItFalse x = new HalfOfItFalse();
        due("no speaker 0 yet", -5, x.speakerOf(0, 0));
        for (int s = 0; s < 6; s++) {
            due("speaker", s, x.speaker(6 - s, s));
            due("it is there", 6 - s, x.speakerOf(s, 0));
            due("the next isn't", -5, x.speakerOf(s + 1, 0));
            due("none below 0", -5, x.speakerOf(-1, 0));
        }
        due("a seventh", -7, x.speaker(0, 0));
        due("six", 6, x.status(1));
        due("the first is as it was", 6, x.speakerOf(0, 0));
        due("the last is as it was", 1, x.speakerOf(5, 0));
    }

    private static void kinds() {
        C.about("Term 1: a KIND is 0 to 6");
        for (int kind = 0; kind <= 6; kind++) {
            HalfOfItFalse x = new HalfOfItFalse();
            due("speaker", 0, x.speaker(kind, 0));
            due("kind", kind, x.speakerOf(0, 0));
        }
        HalfOfItFalse x = new HalfOfItFalse();
        for (int kind : new int[] {-1, 7, Integer.MIN_VALUE, Integer.MAX_VALUE}) {
            due("kind " + kind, -1, x.speaker(kind, 0));
            due("taken for " + kind, -1, x.says(0, kind));
        }
        due("none came", 0, x.status(1));
    }

    private static void kindsUnderKinds() {
        C.about("Term 1: KIND, SLY, CODE, PAIRS under SPEAKER; LATE under KIND; TOLD under CODE");
        int[][] above = {{0}, {0, 1}, {0, 2}, {0, 1, 3}, {0, 4}, {0, 4, 5}, {0, 6}};
        for (int kind = 0; kind <= 6; kind++) {
            HalfOfItFalse x = Checks.make(1, 4, 2, kind);
            x.show(0, 0);
            for (int wanted = 0; wanted <= 6; wanted++) {
                boolean is = false;
                for (int a : above[kind]) {
                    is |= a == wanted;
                }
                due(kind + " taken for " + wanted, is ? 1 : 0, x.says(0, wanted) == -2 ? 0 : 1);
            }
            due("refused", 7 - above[kind].length, x.status(12));
        }
    }

    private static void marks() {
        C.about("Term 1: with a (0 to 1023)");
        HalfOfItFalse x = new HalfOfItFalse();
        due("a", -6, x.speaker(4, -1));
        due("a", 0, x.speaker(4, 0));
        due("a", 1, x.speaker(4, 1023));
        due("a", -6, x.speaker(4, 1024));
        due("a", -6, x.speaker(4, Integer.MIN_VALUE));
        due("a", -6, x.speaker(4, Integer.MAX_VALUE));
        due("a", 0, x.speakerOf(0, 1));
        due("a", 1023, x.speakerOf(1, 1));
        due("two", 2, x.status(1));
    }

    private static void sayings() {
        C.about("Term 1: SAYINGS of today, 24 at most, in order");
        HalfOfItFalse x = Checks.make(2, 10, 5, 0, 0, 0, 0);
        for (int i = 0; i < 24; i++) {
            due("saying " + i, 4, x.say(i % 3, i / 3 % 2, i < 12));
            due("so many", i + 1, x.status(2));
        }
        due("a 25th", -7, x.say(0, 0, true));
        due("a 25th, of another", -7, x.say(3, 0, true));
        for (int i = 0; i < 24; i++) {
            due("sayingOf " + i, 100 * (i % 3) + 10 * (i / 3 % 2) + (i < 12 ? 1 : 0), x.sayingOf(i));
        }
        due("none behind", -1, x.sayingOf(24));
        due("unsay", 23, x.unsay());
        due("the 24th again", 4, x.say(3, 1, true));
        due("no more", -7, x.say(3, 1, true));
        x.sunset();
        due("another day", 4, x.say(3, 1, true));
    }

    private static void aDayOfEachLength() {
        C.about("Term 1: each SPEAKER says N a day at most");
        for (int n = 2; n <= 10; n++) {
            HalfOfItFalse x = Checks.make(1, n, n, 0, 0);
            for (int i = 0; i < n; i++) {
                due("saying " + i + " of " + n, 1, x.say(0, 0, true));
            }
            due("one too many", -6, x.say(0, 0, true));
            due("said", n, x.speakerOf(0, 2));
            due("the day of another isn't full", 1, x.say(1, 0, true));
            due("unsay", n, x.unsay());
            x.unsay();
            due("not full now", 1, x.say(0, 0, true));
            due("full again", -6, x.say(0, 0, true));
            x.sunset();
            due("another day", 1, x.say(0, 0, true));
        }
    }

    private static void aDayOfEachSpeaker() {
        C.about("Term 1: each SPEAKER says N a day at most, whatever their KIND");
        for (int kind = 0; kind <= 6; kind++) {
            HalfOfItFalse x = Checks.make(1, 5, 2, kind);
            x.known(0, true);
            for (int i = 0; i < 5; i++) {
                int so = x.say(0, 0, true);
                due("saying " + i, 1, so == 1 ? 1 : x.say(0, 0, false));
            }
            due("kind " + kind + ": one too many", -6, x.say(0, 0, true));
            due("kind " + kind + ": one too many", -6, x.say(0, 0, false));
            due("said", 5, x.speakerOf(0, 2));
        }
    }

    private static void leftAtFirst() {
        C.about("Term 1: LEFT are at first all WORLDS");
        HalfOfItFalse x = new HalfOfItFalse();
        due("no facts", 1, x.status(3));
        for (int f = 0; f < 6; f++) {
            x.fact(0);
            due("left", 2 << f, x.status(3));
        }
        due("all", -1L, x.worlds());
        x.fact(0);
        due("no more by a seventh", 64, x.status(3));
    }

    private static void aFactMore() {
        C.about("Term 1: a FACT more: each of LEFT with it so, and with it not so");
        for (int facts = 1; facts < 6; facts++) {
            HalfOfItFalse x = Checks.make(facts, 4, 2);
            for (int f = 0; f < facts; f++) {
                x.known(f, true);
            }
            int last = (1 << facts) - 1;
            due("the last alone", 1L << last, x.worlds());
            x.fact(0);
            due("two", 2, x.status(3));
            due("with it, and without", 1L << last | 1L << last + (1 << facts), x.worlds());
        }
    }

    private static void leftAtSunset() {
        C.about("Term 1: LEFT are those WORLDS that were left at sunset");
        HalfOfItFalse x = Checks.make(2, 4, 2, 1);
        x.say(0, 0, true);
        due("a saying leaves them", 4, x.status(3));
        x.unsay();
        due("all again", 15, x.worlds());
        x.say(0, 0, true);
        due("sunset", 2, x.sunset());
        due("left", 2, x.status(3));
        due("worlds", 0b1010, x.worlds());
    }
}
