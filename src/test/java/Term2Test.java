/** Term 2, WHAT MAY BE SAID: each sentence that names a bound, up to it and beyond it. */
public final class Term2Test {
    private static final Checks C = new Checks();
    private static final int[] CODES = {0, 1, 2, 341, 511, 512, 682, 1022, 1023};

    public static void main(String[] args) {
        trueAndFalse();
        numbersOfToday();
        numbersOfEach();
        aFactMoreInTheDrawnWorld();
        speaker();
        speakerInBothWorlds();
        kindSlyAndLate();
        lateOfEachLaw();
        codeAndTold();
        pairs();
        pairsOfAnOddDay();
        worlds();
        sure();
        withoutWorlds();
        aSayingMore();
        show();
        showKeepsNumbers();
        shown();
        C.end();
    }

    private static void due(String call, long want, long got) {
        C.due(call, want, got);
    }

    private static void trueAndFalse() {
        C.about("Term 2: a saying is true, if the FACT is so there as they say");
        for (int f = 0; f < 6; f++) {
            long so = Checks.worldsWith(6, f);
            HalfOfItFalse x = Checks.make(6, 2, 1, 1, 2);
            due("first true, so", 32, x.say(0, f, true));
            due("worlds", so, x.worlds());
            x.unsay();
            due("first true, not so", 32, x.say(0, f, false));
            due("worlds", ~so, x.worlds());
            x.unsay();
            due("first a lie, so", 32, x.say(1, f, true));
            due("worlds", ~so, x.worlds());
            x.unsay();
            due("first a lie, not so", 32, x.say(1, f, false));
            due("worlds", so, x.worlds());
            for (int w = 0; w < 64; w++) {
                due("can be in " + w, w >> f & 1, x.canBe(1, w));
            }
        }
    }

    private static void numbersOfToday() {
        C.about("Term 2: saying number i (0 on) of today");
        HalfOfItFalse x = Checks.make(1, 2, 1, 1);
        x.known(0, true);
        for (int day = 0; day < 3; day++) {
            due("number 0 is no lie", -6, x.say(0, 0, false));
            due("number 0", 1, x.say(0, 0, true));
            due("number 1 is a lie", -6, x.say(0, 0, true));
            due("number 1", 1, x.say(0, 0, false));
            due("unsay", 1, x.unsay());
            due("number 1 again", 1, x.say(0, 0, false));
            x.sunset();
        }
    }

    private static void numbersOfEach() {
        C.about("Term 2: saying number i of a SPEAKER, whatever others said between");
        HalfOfItFalse x = Checks.make(1, 4, 1, 0, 1, 1);
        x.known(0, true);
        due("1, number 0", 1, x.say(1, 0, true));
        due("0", 1, x.say(0, 0, false));
        due("2, number 0 is no lie", -6, x.say(2, 0, false));
        due("2, number 0", 1, x.say(2, 0, true));
        due("1, number 1 is a lie", -6, x.say(1, 0, true));
        due("1, number 1", 1, x.say(1, 0, false));
        due("2, number 1", 1, x.say(2, 0, false));
    }

    private static void aFactMoreInTheDrawnWorld() {
        C.about("Term 2: a FACT more is not so in the WORLD that was drawn");
        HalfOfItFalse x = new HalfOfItFalse();
        x.draw();
        for (int facts = 1; facts <= 6; facts++) {
            x.fact(0);
            for (int w = 0; w < 1 << facts; w++) {
                due("drawn of no facts", w == 0 ? 1 : 0, x.truly(w));
            }
        }
        for (int facts = 1; facts < 6; facts++) {
            HalfOfItFalse y = Checks.make(facts, 4, 2);
            for (int f = 0; f < facts; f++) {
                y.known(f, true);
            }
            y.draw();
            y.fact(0);
            for (int w = 0; w < 2 << facts; w++) {
                due("drawn, all so, then one more", w == (1 << facts) - 1 ? 1 : 0, y.truly(w));
            }
        }
    }

    private static void speaker() {
        C.about("Term 2: SPEAKER: no more than T are true, no more than N less T false");
        for (int n = 2; n <= 10; n++) {
            for (int t = 0; t <= n; t++) {
                HalfOfItFalse x = Checks.make(1, n, t, 0, 0);
                x.known(0, true);
                sayTimes(x, 0, true, t);
                due("T + 1 true ones of " + n + " " + t, -6, x.say(0, 0, true));
                sayTimes(x, 0, false, n - t);
                due("their day came out", n, x.speakerOf(0, 2));
                sayTimes(x, 1, false, n - t);
                due("N - T + 1 false ones of " + n + " " + t, -6, x.say(1, 0, false));
                sayTimes(x, 1, true, t);
                due("their day came out", n, x.speakerOf(1, 2));
            }
        }
    }

    private static void sayTimes(HalfOfItFalse x, int speaker, boolean so, int times) {
        for (int i = 0; i < times; i++) {
            due("say " + so + ", number " + i + " of " + times, 1, x.say(speaker, 0, so));
        }
    }

    private static void speakerInBothWorlds() {
        C.about("Term 2: SPEAKER, by the number of the same said");
        HalfOfItFalse x = Checks.make(1, 10, 6, 0);
        for (int i = 1; i <= 4; i++) {
            due("they may all be false", 2, x.say(0, 0, true));
        }
        due("five can't be false", 1, x.say(0, 0, true));
        due("so it is so", 1, x.sure(0));
        due("six may be true", 1, x.say(0, 0, true));
        due("seven can't be true", -6, x.say(0, 0, true));
        due("can't be in", 0, x.canBe(0, 0));
        due("can be in", 1, x.canBe(0, 1));
    }

    /** In a world in which it is so: each number must be true, or a lie, and nothing else. */
    private static void mustBe(int kind, int a, int n, int t, boolean[] truths) {
        HalfOfItFalse x = new HalfOfItFalse();
        x.fact(0);
        x.law(n, t);
        x.speaker(kind, a);
        x.known(0, true);
        for (int i = 0; i < n; i++) {
            String name = "kind " + kind + " a " + a + ", " + t + " of " + n + ", number " + i;
            due(name + " otherwise", -6, x.say(0, 0, !truths[i]));
            due(name, 1, x.say(0, 0, truths[i]));
            due(name + " in the one", 1, x.canBe(0, 1));
            due(name + " in the other", 0, x.canBe(0, 0));
        }
    }

    private static void kindSlyAndLate() {
        for (int n = 2; n <= 10; n++) {
            for (int t = 0; t <= n; t++) {
                boolean[] kind = new boolean[n];
                boolean[] sly = new boolean[n];
                for (int i = 0; i < t; i++) {
                    kind[i] = true;
                    sly[n - 1 - i] = true;
                }
                C.about("Term 2: KIND: just those of number below T are true");
                mustBe(1, 0, n, t, kind);
                C.about("Term 2: SLY: just those of number N less T and above");
                mustBe(2, 0, n, t, sly);
                C.about("Term 2: LATE: as KIND, but with T above 0 and below N..");
                boolean[] late = kind.clone();
                if (t > 0 && t < n) {
                    late[t - 1] = false;
                    late[n - 1] = true;
                }
                mustBe(3, 0, n, t, late);
            }
        }
    }

    private static void lateOfEachLaw() {
        C.about("Term 2: LATE, T 0, 1, N less 1 and N");
        String[] rows = {"0000", "0001", "1001", "1101", "1111"};
        for (int t = 0; t <= 4; t++) {
            boolean[] late = new boolean[4];
            for (int i = 0; i < 4; i++) {
                late[i] = rows[t].charAt(i) == '1';
            }
            mustBe(3, 0, 4, t, late);
        }
        mustBe(3, 0, 2, 1, new boolean[] {false, true});
    }

    private static void codeAndTold() {
        for (int a : CODES) {
            boolean[] code = new boolean[10];
            boolean[] told = new boolean[10];
            for (int i = 0; i < 10; i++) {
                code[i] = a / (1 << i) % 2 == 1;
                told[i] = !code[i];
            }
            for (int t = 0; t <= 10; t += 5) {
                C.about("Term 2: CODE: i is true just if bit i of a is 1");
                mustBe(4, a, 10, t, code);
                C.about("Term 2: TOLD: just if it is 0");
                mustBe(5, a, 10, t, told);
            }
        }
    }

    private static void pairs() {
        C.about("Term 2: PAIRS: of numbers 2 j and 2 j and 1, if both are said, just one is true");
        for (int turn = 0; turn < 2; turn++) {
            HalfOfItFalse x = Checks.make(1, 10, turn == 0 ? 0 : 10, 6);
            x.known(0, true);
            for (int j = 0; j < 5; j++) {
                boolean first = j % 2 == turn;
                due("number " + 2 * j + " may be true", 1, x.can(0, 0, 1));
                due("number " + 2 * j + " may be false", 1, x.can(0, 0, 0));
                due("number " + 2 * j, 1, x.say(0, 0, first));
                due("the other can't be the same", -6, x.say(0, 0, first));
                due("the other", 1, x.say(0, 0, !first));
            }
            due("an eleventh", -6, x.say(0, 0, true));
        }
    }

    private static void pairsOfAnOddDay() {
        C.about("Term 2: PAIRS, a day of 3: the last is in no pair");
        for (int turn = 0; turn < 2; turn++) {
            HalfOfItFalse x = Checks.make(1, 3, 1, 6);
            x.known(0, true);
            due("number 0", 1, x.say(0, 0, true));
            due("number 1", 1, x.say(0, 0, false));
            due("number 2", 1, x.say(0, 0, turn == 0));
            due("no number 3", -6, x.say(0, 0, turn == 1));
        }
        C.about("Term 2: PAIRS, numbers 1 and 2 are no pair");
        HalfOfItFalse x = Checks.make(2, 4, 1, 6);
        x.say(0, 0, true);
        x.say(0, 1, true);
        due("just one of 0 and 1", 0b0110, x.worlds());
        x.say(0, 1, true);
        due("2 alone tells nothing", 0b0110, x.worlds());
    }

    private static void worlds() {
        C.about("Term 2: WORLDS: those LEFT in which the SAYINGS of each SPEAKER CAN BE");
        HalfOfItFalse x = Checks.make(3, 4, 2, 1, 2, 4);
        due("by no sayings", 0xFF, x.worlds());
        due("known", 4, x.known(0, true));
        due("left", 0xAA, x.worlds());
        due("by one", 2, x.say(0, 1, true));
        due("worlds", 0x88, x.worlds());
        due("by two", 1, x.say(1, 2, true));
        due("worlds", 0x08, x.worlds());
        due("many", 1, x.many());
        due("left are more", 4, x.status(3));
        due("by each one alone: 1", 1, x.canBe(0, 7));
        due("by each one alone: 2", 1, x.canBe(1, 0));
        due("who said nothing can be anywhere", 1, x.canBe(2, 0));
    }

    private static void sure() {
        C.about("Term 2: a FACT is SURE, if it is so in all WORLDS, or in none");
        HalfOfItFalse x = Checks.make(6, 4, 2);
        for (int f = 0; f < 6; f++) {
            due("not yet", -1, x.sure(f));
            due("sures", (1 << f) - 1, x.sures());
            x.known(f, f % 2 == 0);
            due("sure", 1 - f % 2, x.sure(f));
        }
        due("all are", 63, x.sures());
        due("one world", 1, x.many());
        due("of no facts", 0, new HalfOfItFalse().sures());
        HalfOfItFalse y = Checks.make(2, 3, 1, 0);
        y.say(0, 0, true);
        y.say(0, 1, true);
        due("three worlds, none sure", 0b0111, y.worlds());
        due("so in one of three", -1, y.sure(0));
        due("so in one of three", -1, y.sure(1));
    }

    private static void withoutWorlds() {
        C.about("Term 2: (without WORLDS none is SURE): what would leave none is refused");
        HalfOfItFalse x = Checks.make(1, 2, 1, 1, 2);
        x.say(0, 0, true);
        due("say", -6, x.say(1, 0, true));
        due("known", -6, x.known(0, false));
        C.bad(x, "known 0 0", 8);
        C.bad(x, "says 1 0 1", 9);
        due("law", -6, x.law(2, 0));
        due("a world is left", 1, x.many());
        due("it is sure", 1, x.sure(0));
        C.about("Term 2: (without WORLDS none is SURE): an answer that can't be isn't asked for it");
        due("known in 0", 1, x.knows(0, 0));
        HalfOfItFalse y = Checks.make(2, 2, 1, 1, 2);
        y.say(0, 0, true);
        due("of SLY about 0 one answer alone can be", 0, y.can(1, 0, 2));
        due("of SLY about 0 one answer alone can be", 1, y.can(1, 0, 3));
        due("1 is known in 1", 1, y.tree(1));
    }

    private static void aSayingMore() {
        C.about("Term 2: a SAYING more CAN be, if it CAN be in some WORLD");
        HalfOfItFalse x = Checks.make(2, 4, 2, 1, 1);
        x.say(0, 0, true);
        due("in both", 1, x.can(1, 1, 2));
        due("in both", 1, x.can(1, 1, 3));
        due("in some", 1, x.can(1, 0, 2));
        due("in none", 0, x.can(1, 0, 3));
        due("in none", -6, x.say(1, 0, false));
        due("in some", 2, x.say(1, 0, true));
        due("in one", 1, x.say(1, 1, true));
        due("in none", 0, x.can(0, 1, 3));
        due("in the one", 1, x.can(0, 1, 2));
    }

    /** A chain of five pairs that each tell that one fact is so, if the one before isn't. */
    private static HalfOfItFalse chain() {
        HalfOfItFalse x = Checks.make(6, 10, 5, 6);
        for (int f = 0; f < 5; f++) {
            x.say(0, f, true);
            x.say(0, f + 1, true);
        }
        return x;
    }

    private static void show() {
        C.about("Term 2: SHOW: the fewest of all sets of SAYINGS by which it is SURE as now");
        HalfOfItFalse x = chain();
        due("not sure by all ten", -5, x.proof(5));
        x.known(0, true);
        for (int f = 0; f < 6; f++) {
            due("sure", (f + 1) % 2, x.sure(f));
            due("proof of " + f, 2 * f, x.proof(f));
        }
        x.known(5, false);
        due("from behind too", 2, x.proof(4));
        due("from behind too", 4, x.proof(3));
        due("by none", 0, x.proof(5));
        C.about("Term 2: SHOW: a later one alone, of several");
        HalfOfItFalse y = Checks.make(2, 4, 2, 0, 1);
        y.say(0, 0, true);
        y.say(0, 1, true);
        y.say(1, 1, true);
        due("the last alone", 1, y.proof(1));
        due("it isn't sure", -5, y.proof(0));
    }

    private static void showKeepsNumbers() {
        C.about("Term 2: SHOW: those of a SPEAKER keep their numbers");
        HalfOfItFalse x = Checks.make(2, 2, 1, 1);
        x.say(0, 0, true);
        x.say(0, 1, true);
        due("a lie, as number 1", 0, x.sure(1));
        due("the second alone", 1, x.proof(1));
        C.about("Term 2: SHOW: numbers kept, 1 and 2 of PAIRS are no pair");
        HalfOfItFalse y = Checks.make(2, 4, 2, 6);
        y.known(0, true);
        y.say(0, 0, true);
        y.say(0, 0, false);
        y.say(0, 1, true);
        y.say(0, 0, false);
        due("so: just one of 2 and 3", 1, y.sure(1));
        due("2 and 3", 2, y.proof(1));
        C.about("Term 2: SHOW: as if the others weren't said by anyone");
        HalfOfItFalse z = Checks.make(2, 4, 2, 0, 0);
        z.say(0, 0, true);
        z.say(1, 0, true);
        z.say(0, 0, true);
        due("two by each can be", 4, z.many());
        z.say(0, 1, true);
        z.say(0, 1, true);
        due("just one of the two is so", 0b0110, z.worlds());
        z.known(0, true);
        due("more than two true ones can't be", 3, z.proof(1));
    }

    private static void shown() {
        C.about("Term 2: SHOWN: the least k such that the first k SAYINGS make it SURE");
        HalfOfItFalse x = chain();
        due("not sure", -5, x.shown(0));
        x.known(0, true);
        for (int f = 0; f < 6; f++) {
            due("shown " + f, 2 * f, x.shown(f));
        }
        x.known(5, false);
        due("by none", 0, x.shown(5));
        due("only first ones", 8, x.shown(4));
        HalfOfItFalse y = Checks.make(1, 4, 2, 0, 1);
        for (int i = 0; i < 4; i++) {
            y.say(0, 0, i % 2 == 0);
        }
        y.say(1, 0, true);
        due("by the last", 5, y.shown(0));
        y.unsay();
        due("not sure", -5, y.shown(0));
    }
}
