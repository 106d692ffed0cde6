import java.util.ArrayList;
import java.util.List;

/** Term 3, WHAT IS MADE OF IT: each sentence that names a bound, up to it and beyond it. */
public final class Term3Test {
    private static final Checks C = new Checks();
    private static final int BIG = Integer.MAX_VALUE;
    private static final int SMALL = Integer.MIN_VALUE;

    public static void main(String[] args) {
        question();
        worst();
        next();
        known();
        knownToTheDaysEnd();
        knownWithoutRoom();
        tree();
        rows();
        tells();
        errandsOfFacts();
        liesOfTheDay();
        idle();
        placed();
        trustOfKinds();
        trustOfOthers();
        witness();
        toldDay();
        toldDayThatCannotBe();
        toldDayWithoutRoom();
        sunset();
        drawOfPlaces();
        drawWraps();
        askedAsTheyMust();
        askedAsTheyCan();
        askedNeither();
        askedChangesNothing();
        askedByADrawChangesNothing();
        shelves();
        sorts();
        asInts();
        acts();
        actsWrap();
        trace();
        C.end();
    }

    private static void due(String call, long want, long got) {
        C.due(call, want, got);
    }

    private static void question() {
        C.about("Term 3: a QUESTION: a SPEAKER (whose day isn't full) and a FACT");
        HalfOfItFalse x = Checks.make(2, 2, 1, 1, 2);
        due("next", 0, x.next());
        x.say(0, 0, true);
        due("one is left of their day", 1, x.worst(0, 1));
        x.say(0, 0, false);
        due("none is", -6, x.worst(0, 1));
        due("of the other", 10 + 1, x.next());
        x.say(1, 1, true);
        x.say(1, 1, false);
        due("their days are full", -5, x.next());
        x.unsay();
        due("one is left", 10, x.next());
        C.about("Term 3: no QUESTION without a SPEAKER, or a FACT");
        due("no speaker", -5, Checks.make(6, 2, 1).next());
        due("no fact", -5, Checks.make(0, 2, 1, 1).next());
        due("no fact", -1, Checks.make(0, 2, 1, 1).worst(0, 0));
    }

    private static void worst() {
        C.about("Term 3: ITS WORST: the greater number of WORLDS of both answers");
        HalfOfItFalse x = Checks.make(2, 3, 1, 0, 1, 2);
        due("nothing is told by a SPEAKER", 4, x.worst(0, 0));
        x.say(0, 0, true);
        x.say(0, 1, true);
        due("three", 0b0111, x.worlds());
        due("KIND: so in one, not in two", 2, x.worst(1, 0));
        due("SLY: said of one, not of two", 2, x.worst(2, 1));
        due("SPEAKER: the third a lie in two, true in one", 2, x.worst(0, 0));
        x.known(0, false);
        due("both of two", 2, x.worst(1, 0));
        due("one of each", 1, x.worst(1, 1));
        x.known(1, false);
        due("one answer can't be", 1, x.worst(1, 1));
    }

    private static void next() {
        C.about("Term 3: NEXT: the least WORST, of several the least SPEAKER, then FACT");
        HalfOfItFalse x = Checks.make(3, 2, 1, 0, 1, 2);
        due("the first that tells", 10, x.next());
        x.known(0, true);
        due("the first FACT that tells", 11, x.next());
        x.known(1, true);
        due("the last FACT alone", 12, x.next());
        x.say(1, 0, true);
        x.say(1, 0, false);
        due("the next SPEAKER", 22, x.next());
        x.known(2, true);
        due("all alike: the first of all", 0, x.next());
        HalfOfItFalse y = Checks.make(6, 2, 1, 0, 0, 0, 0, 0, 1);
        for (int f = 0; f < 5; f++) {
            y.known(f, true);
        }
        due("the last of all", 55, y.next());
    }

    private static void known() {
        C.about("Term 3: KNOWN in k (0 to 2): in k QUESTIONS at most it can be made SURE");
        int[] kinds = {1, 6, 0};
        int[] least = {1, 2, 3};
        for (int i = 0; i < 3; i++) {
            HalfOfItFalse x = Checks.make(2, 4, 2, kinds[i]);
            x.known(1, true);
            for (int k = 0; k <= 2; k++) {
                due("kind " + kinds[i] + " in " + k, k >= least[i] ? 1 : 0, x.knows(0, k));
            }
            due("k", -6, x.knows(0, 3));
            due("k", -6, x.knows(0, -1));
            due("k", -6, x.knows(0, BIG));
            due("k", -6, x.knows(0, SMALL));
            x.known(0, false);
            for (int k = 0; k <= 2; k++) {
                due("sure, in " + k, 1, x.knows(0, k));
            }
        }
        C.about("Term 3: KNOWN whatever is answered: after one answer alone isn't enough");
        HalfOfItFalse y = Checks.make(1, 3, 1, 0);
        due("so and not so: it isn't known", 0, y.knows(0, 2));
        y.say(0, 0, true);
        due("so: it isn't so; not so: it isn't known", 0, y.knows(0, 1));
        due("the day comes out: two of three are false", 1, y.knows(0, 2));
    }

    private static void knownToTheDaysEnd() {
        C.about("Term 3: KNOWN by QUESTIONS to a SPEAKER whose day isn't full");
        HalfOfItFalse x = Checks.make(2, 3, 1, 6);
        x.known(0, true);
        due("a pair is left", 2, x.tree(1));
        x.say(0, 0, true);
        due("half of a pair is left", 1, x.tree(1));
        x.say(0, 0, false);
        due("one is left, in no pair", -1, x.tree(1));
        x.say(0, 0, false);
        due("none is left", -1, x.tree(1));
        HalfOfItFalse y = Checks.make(2, 3, 1, 1);
        for (int i = 0; i < 3; i++) {
            due("KIND, " + (3 - i) + " left", 1, y.tree(1));
            y.say(0, 0, i == 0);
        }
        due("KIND, none left", -1, y.tree(1));
        due("no speaker", -1, Checks.make(2, 3, 1).tree(1));
        C.about("Term 3: KNOWN: no QUESTION to one who is no SPEAKER, about what is no FACT");
        HalfOfItFalse none = Checks.make(1, 2, 0);
        due("all would lie, but there is none", 0, none.knows(0, 2));
        none.speaker(0, 0);
        due("one who lies", 1, none.knows(0, 1));
        HalfOfItFalse all = Checks.make(6, 10, 5, 0, 0, 0, 0, 0, 0);
        for (int k = 0; k <= 2; k++) {
            due("six and six, in " + k, 0, all.knows(5, k));
        }
        due("six and six", -1, all.tree(5));
    }

    private static void knownWithoutRoom() {
        C.about("Term 3: KNOWN: room for SAYINGS isn't asked");
        HalfOfItFalse x = Checks.make(2, 10, 5, 0, 0, 0, 6);
        x.known(0, true);
        for (int i = 0; i < 24; i++) {
            x.say(i / 8, 0, i % 2 == 0);
        }
        due("no room", -7, x.say(3, 0, true));
        due("known in two more", 1, x.knows(1, 2));
        due("not in one more", 0, x.knows(1, 1));
        due("tree", 2, x.tree(1));
        due("still said", 24, x.status(2));
        due("next", 1, x.next() >= 0 ? 1 : 0);
        due("worst", 2, x.worst(3, 1));
    }

    private static void tree() {
        C.about("Term 3: TREE: the least k of 0 to 2; NONE: none");
        HalfOfItFalse x = Checks.make(2, 4, 2, 0, 6, 1);
        x.known(0, true);
        due("sure", 0, x.tree(0));
        due("by a KIND", 1, x.tree(1));
        for (int i = 0; i < 4; i++) {
            x.say(2, 0, i < 2);
        }
        due("by a pair", 2, x.tree(1));
        for (int i = 0; i < 4; i++) {
            x.say(1, 0, i % 2 == 0);
        }
        due("by a SPEAKER of four, two true: none", -1, x.tree(1));
        x.say(0, 0, true);
        due("of three more, one true: none", -1, x.tree(1));
        x.say(0, 0, false);
        due("of two more, one true", 2, x.tree(1));
        x.say(0, 0, true);
        due("the last must be false", 1, x.tree(1));
        x.say(0, 1, true);
        due("it was", 0, x.tree(1));
    }

    private static void rows() {
        C.about("Term 3: ROWS: of m SAYINGS, 0 to N, as if nothing had been said");
        for (int n = 2; n <= 10; n++) {
            for (int t = 0; t <= n; t++) {
                HalfOfItFalse x = Checks.make(0, n, t, 0, 1, 2, 3, 5, 6);
                for (int m = 0; m <= n; m++) {
                    due("SPEAKER " + t + " of " + n + ", " + m, rowsOfSpeaker(n, t, m), x.rows(0, m));
                    for (int s = 1; s < 5; s++) {
                        due("just one", 1, x.rows(s, m));
                    }
                    due("PAIRS " + m, 1 << (m + 1) / 2, x.rows(5, m));
                }
                for (int s = 0; s < 6; s++) {
                    due("below 0", -6, x.rows(s, -1));
                    due("above N", -6, x.rows(s, n + 1));
                }
            }
        }
        HalfOfItFalse x = Checks.make(1, 2, 1, 0);
        x.say(0, 0, true);
        x.say(0, 0, false);
        due("though the day is full", 2, x.rows(0, 2));
    }

    /** Of all rows of m those that leave room for what the day still needs. */
    private static int rowsOfSpeaker(int n, int t, int m) {
        int sum = 0;
        for (int row = 0; row < 1 << m; row++) {
            int trues = Integer.bitCount(row);
            if (trues <= t && m - trues <= n - t) {
                sum++;
            }
        }
        return sum;
    }

    private static void tells() {
        C.about("Term 3: TELLS: the greatest number of messages is the number of rows");
        for (int n = 2; n <= 10; n++) {
            for (int t = 0; t <= n; t++) {
                HalfOfItFalse x = Checks.make(0, n, t, 0, 1, 6);
                due("one message: by none said", 0, x.tells(0, 1));
                int before = 0;
                for (int m = 0; m <= n; m++) {
                    int rows = rowsOfSpeaker(n, t, m);
                    if (rows > before) {
                        due(t + " of " + n + " tells " + rows, m, x.tells(0, rows));
                        due(t + " of " + n + " tells " + (before + 1), m, x.tells(0, before + 1));
                        before = rows;
                    }
                }
                due("one more, by none", -1, x.tells(0, before + 1));
                due("KIND, two", -1, x.tells(1, 2));
                due("PAIRS, all", n % 2 == 0 ? n - 1 : n, x.tells(2, 1 << (n + 1) / 2));
                due("PAIRS, one more", -1, x.tells(2, (1 << (n + 1) / 2) + 1));
            }
        }
        HalfOfItFalse x = Checks.make(0, 10, 5, 0);
        due("1024", -1, x.tells(0, 1024));
        due("1025", -16, x.tells(0, 1025));
        due("0", -16, x.tells(0, 0));
        due("below 0", -16, x.tells(0, SMALL));
    }

    private static void errandsOfFacts() {
        C.about("Term 3: ERRANDS: a ROW of FACTS (10 elements at most)");
        HalfOfItFalse x = Checks.make(6, 10, 0);
        Checks.fill(x, 0, 0, 0, 1, 2, 3, 4, 5, 0, 1, 2, 3);
        due("ten", 21 + 10, x.errands(0, 0));
        due("ten", 1023, x.placed(0, 0));
        x.row(1, 0, 11);
        due("eleven", -6, x.errands(1, 0));
        due("eleven", -6, x.placed(1, 0));
        x.row(1, 0, 0);
        due("none", 0, x.errands(1, 0));
        due("none", 0, x.placed(1, 0));
        C.about("Term 3: ERRANDS: those that are no FACT are passed over");
        Checks.fill(x, 2, 2, -1, 6, 5, 127, SMALL, BIG, 0);
        due("two are", 6 + 1, x.errands(2, 0));
        due("two are", 1 << 2 | 1 << 6, x.placed(2, 0));
        C.about("Term 3: ERRANDS: one that stands twice counts twice");
        Checks.fill(x, 3, 0, 4, 4, 4);
        due("thrice", 15, x.errands(3, 0));
        due("thrice", 7, x.placed(3, 0));
        due("once", 5, x.errands(3, 9));
        due("the first of them", 1, x.placed(3, 9));
    }

    private static void liesOfTheDay() {
        C.about("Term 3: ERRANDS: just N less T are to be lies (all, if they are fewer)");
        for (int n = 2; n <= 10; n++) {
            for (int t = 0; t <= n; t++) {
                HalfOfItFalse x = Checks.make(6, n, t);
                Checks.fill(x, 0, 0, 0, 1, 2, 3, 4, 5);
                int lies = Math.min(6, n - t);
                due("errands " + t + " of " + n, lies * (lies + 1) / 2, x.errands(0, 0));
                due("placed " + t + " of " + n, (1 << lies) - 1, x.placed(0, 0));
            }
        }
    }

    private static void idle() {
        C.about("Term 3: ERRANDS: a idle SAYINGS besides (0 to 10; without HARM)");
        HalfOfItFalse x = Checks.make(6, 10, 0);
        Checks.fill(x, 0, 0, 0, 1, 2, 3, 4, 5);
        for (int a = 0; a <= 10; a++) {
            int lies = Math.min(6, 10 - a);
            due("idle " + a, lies * (lies + 1) / 2, x.errands(0, a));
            due("idle " + a, (1 << lies) - 1, x.placed(0, a));
        }
        for (int a : new int[] {-1, 11, SMALL, BIG}) {
            due("idle " + a, -6, x.errands(0, a));
            due("idle " + a, -6, x.placed(0, a));
        }
        x.law(4, 2);
        due("as many as are to be lies", 0, x.errands(0, 2));
        due("more", 0, x.placed(0, 10));
        due("one fewer", 1, x.errands(0, 1));
    }

    private static void placed() {
        C.about("Term 3: PLACED: least HARM first, of several the first (idle ones ahead of all)");
        HalfOfItFalse x = Checks.make(4, 4, 2);
        x.harm(0, 99);
        x.harm(1, 0);
        x.harm(2, 50);
        x.harm(3, 50);
        Checks.fill(x, 0, 0, 0, 3, 2, 1, 1, 3);
        int[] places = {3, 4, 1, 2, 5, 0};
        int[] harms = {0, 0, 50, 50, 50, 99};
        int bits = 0;
        int sum = 0;
        for (int lies = 0; lies <= 6; lies++) {
            x.law(10, 10 - lies);
            due(lies + " lies", bits, x.placed(0, 0));
            due(lies + " lies", sum, x.errands(0, 0));
            if (lies < 6) {
                bits |= 1 << places[lies];
                sum += harms[lies];
            }
        }
        x.law(4, 3);
        due("an idle one ahead of no HARM", 0, x.placed(0, 1));
        due("none idle", 1 << 3, x.placed(0, 0));
    }

    private static void trustOfKinds() {
        C.about("Term 3: TRUST of KIND, SLY, LATE, CODE, TOLD: in how many WORLDS it is true");
        HalfOfItFalse x = Checks.make(6, 4, 2, 1, 2, 3, 4, 5);
        String[] rows = {"1100", "0011", "1001", "1010", "0101"};
        x.known(0, true);
        for (int i = 0; i < 4; i++) {
            for (int s = 0; s < 5; s++) {
                boolean truth = rows[s].charAt(i) == '1';
                due("trust " + s + " number " + i, truth ? 32 : 0, x.trust(s));
                due("say", 32, x.say(s, 0, truth));
            }
        }
        for (int s = 0; s < 5; s++) {
            due("their day is full", -1000006, x.trust(s));
        }
        due("no speaker", -1000001, x.trust(5));
        due("no speaker", -1000001, x.trust(-1));
        C.about("Term 3: TRUST in all WORLDS, in one");
        HalfOfItFalse y = Checks.make(6, 4, 2, 1, 2);
        due("all", 64, y.trust(0));
        due("none", 0, y.trust(1));
        due("one world", 1, Checks.make(0, 4, 2, 1).trust(0));
    }

    private static void trustOfOthers() {
        C.about("Term 3: TRUST of others: WORLDS that let them say it truly, less falsely");
        due("true alone", 64, Checks.make(6, 4, 4, 0).trust(0));
        due("false alone", -64, Checks.make(6, 4, 0, 0).trust(0));
        due("both", 0, Checks.make(6, 4, 2, 0).trust(0));
        HalfOfItFalse x = Checks.make(2, 3, 2, 0, 6);
        x.say(0, 0, true);
        due("two let both, two truly alone", 2, x.trust(0));
        x.say(1, 0, true);
        due("two let it truly, two falsely", 0, x.trust(1));
        x.say(0, 0, true);
        due("two can't be false", 0b1010, x.worlds());
        due("falsely alone", -2, x.trust(0));
        due("falsely alone", -2, x.trust(1));
        x.say(1, 1, true);
        due("a pair is whole", 0, x.trust(1));
        due("one is left", -1, x.trust(0));
        x.say(1, 0, true);
        due("full", -1000006, x.trust(1));
    }

    private static void witness() {
        C.about("Term 3: WITNESS: without whose SAYINGS most WORLDS would be left, first of several");
        due("no speakers", -5, Checks.make(1, 4, 2).witness());
        due("one alone", 0, Checks.make(1, 4, 2, 1).witness());
        HalfOfItFalse x = Checks.make(3, 4, 2, 1, 1, 1, 1, 1, 1);
        due("none said anything: the first", 0, x.witness());
        x.say(5, 0, true);
        due("the last", 5, x.witness());
        x.say(4, 1, true);
        due("of two the first", 4, x.witness());
        x.say(5, 2, true);
        due("who said more", 5, x.witness());
        HalfOfItFalse y = Checks.make(3, 4, 2, 1, 1);
        y.say(1, 0, true);
        y.say(0, 1, true);
        y.say(0, 2, true);
        due("the first said more", 0, y.witness());
        x.say(3, 0, true);
        x.say(3, 2, true);
        due("what two say is left by either", 4, x.witness());
        due("all is as it was", 1, x.many());
        due("all is as it was", 5, x.status(2));
        x.sunset();
        due("none said anything today", 0, x.witness());
    }

    private static void toldDay() {
        C.about("Term 3: a told DAY: 100 times the SPEAKER, 10 times the FACT and 0 or 1");
        HalfOfItFalse x = Checks.make(6, 4, 2, 0, 0, 0, 0, 0, 0);
        Checks.fill(x, 0, 2, 0, 1, 50, 51, 500, 501, 550, 551);
        due("all are", -1, x.judge(0, 8));
        due("none is asked", -1, x.judge(0, 0));
        int[] none = {2, 9, 60, 61, 99, 552, 560, 600, 601, 1000, -1, -50, -100, -500, BIG, SMALL};
        for (int saying : none) {
            Checks.fill(x, 0, 2, 551, saying, saying);
            due("none: " + saying, 1, x.judge(0, 3));
            due("not asked: " + saying, -1, x.judge(0, 1));
        }
        due("nothing was said", 0, x.status(2));
        C.about("Term 3: a told DAY: no such SPEAKER, no such FACT");
        HalfOfItFalse y = Checks.make(2, 4, 2, 0, 0);
        Checks.fill(y, 0, 2, 111, 120);
        due("no fact 2", 1, y.judge(0, 2));
        Checks.fill(y, 0, 2, 111, 210);
        due("no speaker 2", 1, y.judge(0, 2));
    }

    private static void toldDayThatCannotBe() {
        C.about("Term 3: a told DAY: said behind those of today; their day is full, it CAN'T be");
        HalfOfItFalse x = Checks.make(1, 3, 2, 1, 0);
        Checks.fill(x, 0, 0, 1, 1, 0, 1);
        due("the fourth of a day of three", 3, x.judge(0, 4));
        due("three", -1, x.judge(0, 3));
        Checks.fill(x, 1, 0, 1, 1, 1);
        due("the third can't be true", 2, x.judge(1, 3));
        x.say(0, 0, true);
        due("one was said today", 1, x.judge(1, 3));
        due("one was said today", 1, x.judge(0, 4));
        Checks.fill(x, 2, 0, 1, 0);
        due("their day comes out", -1, x.judge(2, 2));
        x.say(0, 0, true);
        due("two were said today", 0, x.judge(2, 2));
        x.say(0, 0, false);
        Checks.fill(x, 2, 0, 101, 0);
        due("their day is full", 1, x.judge(2, 2));
        Checks.fill(x, 2, 0, 100, 100);
        due("another may say one that isn't so", 1, x.judge(2, 2));
    }

    private static void toldDayWithoutRoom() {
        C.about("Term 3: a told DAY: room isn't asked");
        HalfOfItFalse x = Checks.make(1, 8, 4, 0, 0, 0, 0, 0, 0);
        x.row(0, 1, 25);
        for (int i = 0; i < 24; i++) {
            x.set(0, i, 300 + 100 * (i / 8) + i % 2);
            x.say(i / 8, 0, i % 2 == 0);
        }
        due("no room", -7, x.say(3, 0, true));
        due("24 behind 24", -1, x.judge(0, 24));
        x.set(0, 23, 500);
        due("a fifth that isn't so can't be", 23, x.judge(0, 24));
        due("ahead of it all can", -1, x.judge(0, 23));
        due("25", -6, x.judge(0, 25));
        due("still said", 24, x.status(2));
    }

    private static void sunset() {
        C.about("Term 3: SUNSET: SAYINGS are none again; DAYS gone by are 1 more");
        HalfOfItFalse x = Checks.make(2, 2, 1, 1, 0);
        for (int day = 1; day <= 5; day++) {
            x.say(0, 0, true);
            x.say(0, 0, false);
            due("their day is full", -6, x.say(0, 0, true));
            due("sunset", 2, x.sunset());
            due("days", day, x.status(6));
            due("sayings", 0, x.status(2));
            due("said", 0, x.speakerOf(0, 2));
            due("none", -1, x.sayingOf(0));
            due("none", -6, x.unsay());
        }
        due("nothing said, a day more", 2, x.sunset());
        due("days", 6, x.status(6));
    }

    /** The place of a DRAW below n, by the seed ahead of it. */
    private static int place(int seed, int n) {
        long next = seed * 1103515245 + 12345 & 0xFFFFFFFFL;
        return (int) (next / 65536 % n);
    }

    private static void drawOfPlaces() {
        C.about("Term 3: IN TRUTH: a DRAW below how many WORLDS: the one of that place, by numbers");
        for (int facts = 0; facts <= 6; facts++) {
            int n = 1 << facts;
            boolean first = false;
            boolean last = false;
            for (int seed = 0; seed < 300; seed++) {
                HalfOfItFalse x = Checks.make(facts, 4, 2);
                x.seed(seed);
                due("draw", n, x.draw());
                int place = place(seed, n);
                due("place " + place, 1, x.truly(place));
                due("another", n == 1 ? 1 : 0, x.truly((place + 1) % n));
                first |= place == 0;
                last |= place == n - 1;
            }
            due("the first of " + n + " came", 1, first ? 1 : 0);
            due("the last of " + n + " came", 1, last ? 1 : 0);
        }
        for (int seed = 0; seed < 100; seed++) {
            HalfOfItFalse x = Checks.make(2, 3, 1, 0, 1);
            x.say(0, 0, false);
            x.say(0, 1, false);
            due("three: 1, 2 and 3", 0b1110, x.worlds());
            x.seed(seed);
            due("draw of three", 3, x.draw());
            due("by numbers", 1, x.truly(1 + place(seed, 3)));
        }
    }

    private static void drawWraps() {
        C.about("Term 3: SEED (1 at first) times 1103515245, and 12345 (an int, wrapping)");
        HalfOfItFalse x = new HalfOfItFalse();
        due("at first", 1, x.status(7));
        x.draw();
        due("then", 1103527590, x.status(7));
        x.draw();
        due("then", (int) (1103527590L * 1103515245L + 12345L), x.status(7));
        int[] seeds = {0, -1, BIG, SMALL, 2, 1 << 16};
        int[] nexts = {12345, -1103502900, 1043980748, -2147471303, -2087924461, 1315778617};
        for (int i = 0; i < seeds.length; i++) {
            x.seed(seeds[i]);
            x.draw();
            due("behind " + seeds[i], nexts[i], x.status(7));
        }
        C.about("Term 3: a DRAW: its upper 16 bits, no sign, modulo n");
        int below = 0;
        for (int seed = -50; seed < 50; seed++) {
            HalfOfItFalse y = Checks.make(6, 4, 2);
            y.seed(seed);
            y.draw();
            below += y.status(7) < 0 ? 1 : 0;
            due("behind " + seed, 1, y.truly(place(seed, 64)));
        }
        due("some were below 0, some not", 1, below > 0 && below < 100 ? 1 : 0);
    }

    private static void askedAsTheyMust() {
        C.about("Term 3: KIND, SLY, LATE, CODE, TOLD asked IN TRUTH answer as it must be");
        String[] rows = {"1100", "0011", "1001", "1010", "0101"};
        for (int so = 0; so < 2; so++) {
            HalfOfItFalse x = Checks.make(1, 4, 2, 1, 2, 3, 4, 5);
            x.known(0, so == 1);
            x.draw();
            int seed = x.status(7);
            for (int i = 0; i < 4; i++) {
                for (int s = 0; s < 5; s++) {
                    int truth = rows[s].charAt(i) - '0';
                    due("ask " + s + " number " + i, truth == so ? 1 : 0, x.ask(s, 0));
                }
            }
            for (int s = 0; s < 5; s++) {
                due("full", -6, x.ask(s, 0));
                due("said", 4, x.speakerOf(s, 2));
            }
            due("without a draw", seed, x.status(7));
        }
        C.about("Term 3: KIND and SLY asked IN TRUTH, though the drawn WORLD lets them say no more");
        HalfOfItFalse y = Checks.make(2, 4, 2, 1, 2);
        y.draw();
        boolean first = y.truly(1) == 1 || y.truly(3) == 1;
        int second = y.truly(2) + y.truly(3);
        y.say(0, 0, !first);
        due("not the drawn one", 0, y.canBe(0, (first ? 1 : 0) + 2 * second));
        due("true, by the drawn one", second, y.ask(0, 1));
        HalfOfItFalse z = Checks.make(2, 4, 2, 1, 2);
        z.draw();
        first = z.truly(1) == 1 || z.truly(3) == 1;
        second = z.truly(2) + z.truly(3);
        due("a lie: it is other than drawn", 2, z.say(1, 0, first));
        due("a lie about it is true in what is left", -6, z.ask(1, 0));
        due("a lie, by the drawn one", 1 - second, z.ask(1, 1));
    }

    private static void askedAsTheyCan() {
        C.about("Term 3: SPEAKER, PAIRS: if only one CAN be, that, if both, a DRAW: true, if 1");
        for (int seed = 0; seed < 60; seed++) {
            HalfOfItFalse x = Checks.make(1, 2, 1, 0, 6);
            x.known(0, true);
            x.draw();
            for (int s = 0; s < 2; s++) {
                x.seed(seed);
                int first = place(seed, 2);
                due("both: drawn", first, x.ask(s, 0));
                int then = x.status(7);
                due("seed", seed * 1103515245 + 12345, then);
                due("one: the other", 1 - first, x.ask(s, 0));
                due("no draw", then, x.status(7));
                due("full", -6, x.ask(s, 0));
                due("no draw", then, x.status(7));
            }
        }
        C.about("Term 3: SPEAKER of T 0, of T N: one alone");
        HalfOfItFalse none = Checks.make(1, 2, 0, 0);
        none.known(0, true);
        none.draw();
        due("T 0", 0, none.ask(0, 0));
        HalfOfItFalse all = Checks.make(1, 2, 2, 0);
        all.known(0, true);
        all.draw();
        due("T N", 1, all.ask(0, 0));
        due("no draw", 1103527590, all.status(7));
    }

    private static void askedNeither() {
        C.about("Term 3: SPEAKER (if neither: it CAN'T be)");
        for (int seed = 0; seed < 40; seed++) {
            HalfOfItFalse x = Checks.make(1, 4, 1, 0);
            x.seed(seed);
            x.draw();
            boolean so = x.truly(1) == 1;
            x.say(0, 0, so);
            due("twice the same: it is the other", 1, x.say(0, 0, so));
            int before = x.status(7);
            due("neither", -6, x.ask(0, 0));
            due("seed", before, x.status(7));
            due("sayings", 2, x.status(2));
            due("that world is none any more", 0, x.canBe(0, so ? 1 : 0));
        }
        C.about("Term 3: PAIRS whose pair can't be (if neither)");
        int tried = 0;
        for (int seed = 0; seed < 40; seed++) {
            HalfOfItFalse x = Checks.make(2, 4, 1, 6);
            x.seed(seed);
            x.draw();
            if (x.truly(3) == 1) {
                x.say(0, 0, true);
                x.say(0, 1, true);
                due("in 3 both would be true", 0, x.canBe(0, 3));
                int before = x.status(7);
                due("neither", -6, x.ask(0, 0));
                due("seed", before, x.status(7));
                tried++;
            }
        }
        due("3 was drawn", 1, tried > 0 ? 1 : 0);
    }

    private static void askedChangesNothing() {
        C.about("Term 3: a SAYING that CAN'T be changes nothing, SEED neither");
        int refused = 0;
        for (int seed = 0; seed < 60; seed++) {
            HalfOfItFalse x = Checks.make(1, 4, 4, 0);
            x.draw();
            boolean so = x.truly(1) == 1;
            x.known(0, !so);
            x.law(4, 0);
            x.seed(seed);
            due("only lies, but that isn't so", -6, x.ask(0, 0));
            due("seed", seed, x.status(7));
            HalfOfItFalse y = Checks.make(2, 3, 1, 0);
            y.draw();
            boolean second = y.truly(2) == 1 || y.truly(3) == 1;
            boolean first = y.truly(1) == 1 || y.truly(3) == 1;
            y.known(0, !first);
            y.known(1, second);
            y.say(0, 1, second);
            y.seed(seed);
            // In the drawn world a lie alone can be; about 0 a lie there is true in what is left.
            due("one true already", -6, y.ask(0, 0));
            due("seed", seed, y.status(7));
            y.unsay();
            y.law(3, 2);
            y.say(0, 1, second);
            y.say(0, 1, !second);
            // Now a truth alone can be; about 0 that is a lie in what is left.
            due("one false already", -6, y.ask(0, 0));
            due("seed", seed, y.status(7));
            refused += y.status(16);
            due("said", 2, y.status(2));
        }
        due("refused", 120, refused);
    }

    /** In the drawn world both can be: a draw. What is left has one true and one false too few. */
    private static void askedByADrawChangesNothing() {
        C.about("Term 3: a SAYING that CAN'T be changes nothing, SEED neither, though it was drawn");
        int refused = 0;
        for (int seed = 0; seed < 60; seed++) {
            HalfOfItFalse x = Checks.make(2, 4, 2, 0);
            x.draw();
            boolean first = x.truly(1) == 1 || x.truly(3) == 1;
            boolean second = x.truly(2) == 1 || x.truly(3) == 1;
            x.say(0, 0, first);
            x.say(0, 1, !second);
            x.known(0, first);
            x.known(1, !second);
            x.seed(seed);
            if (place(seed, 2) == 1) {
                due("true as drawn: a third true one in what is left", -6, x.ask(0, 0));
                due("seed", seed, x.status(7));
                due("sayings", 2, x.status(2));
                refused++;
            } else {
                due("a lie as drawn", first ? 0 : 1, x.ask(0, 0));
                due("seed", seed * 1103515245 + 12345, x.status(7));
                due("sayings", 3, x.status(2));
            }
        }
        due("some were refused, some not", 1, refused > 0 && refused < 60 ? 1 : 0);
        C.about("REFUSALS: what there is no room for changes nothing, SEED neither");
        for (int kind = 0; kind <= 6; kind += 6) {
            HalfOfItFalse x = Checks.make(1, 8, 4, 0, 0, 0, kind);
            for (int i = 0; i < 24; i++) {
                x.say(i / 8, 0, i % 2 == 0);
            }
            x.draw();
            int seed = x.status(7);
            due("no room", -7, x.ask(3, 0));
            due("seed", seed, x.status(7));
            x.unsay();
            due("room for one", place(seed, 2) == x.truly(1) ? 1 : 0, x.ask(3, 0));
            due("seed", seed * 1103515245 + 12345, x.status(7));
        }
    }

    private static void shelves() {
        C.about("Term 3: SHELVES 0 to 7 hold NOTHING (at first), a ROW, or a SPEAKER");
        HalfOfItFalse x = Checks.make(0, 4, 2, 1);
        for (int s = 0; s < 8; s++) {
            due("nothing at first", -1, x.holds(s));
            due("nothing at first", -3, x.set(s, 0, 1));
            due("a row", 1, x.row(s, 1, 1));
            due("a row", 101, x.holds(s));
            due("a speaker", 1, x.show(s, 0));
            due("a speaker", 0, x.holds(s));
            due("nothing again", 0, x.show(s, -1));
            due("nothing again", -1, x.holds(s));
        }
        for (int s : new int[] {-1, 8, SMALL, BIG}) {
            due("no shelf " + s, -1, x.row(s, 1, 1));
            due("no shelf " + s, -1, x.show(s, 0));
            due("no shelf " + s, -1, x.set(s, 0, 0));
            due("no shelf " + s, -1, x.copy(s, 0, 0, 0, 0));
            due("no shelf " + s, -1, x.copy(0, s, 0, 0, 0));
            due("no shelf " + s, -1, x.says(s, 0));
            due("no shelf " + s, -1, x.town(s));
            due("no shelf " + s, -1, x.errands(s, 0));
            due("no shelf " + s, -1, x.placed(s, 0));
            due("no shelf " + s, -1, x.judge(s, 0));
            due("no shelf " + s, -1, x.holds(s));
            due("no shelf " + s, 0, x.element(s, 0));
        }
        due("counted", 40, x.status(11));
    }

    private static void sorts() {
        C.about("Term 3: a ROW has 0 to 160 elements, 0 at first; keeps the lowest bits");
        long[] most = {127, 32767, BIG, Long.MAX_VALUE};
        for (int sort = 0; sort <= 3; sort++) {
            HalfOfItFalse x = new HalfOfItFalse();
            due("row of 160", 1, x.row(0, sort, 160));
            for (int i = 0; i < 160; i++) {
                due("0 at first", 0, x.element(0, i));
            }
            due("160 more", -7, x.row(0, sort, 161));
            due("row of none", 1, x.row(1, sort, 0));
            due("below none", -4, x.row(1, sort, -1));
            long[] put = {most[sort], most[sort] + 1, -most[sort] - 1, -most[sort] - 2, -1};
            long[] kept = {most[sort], -most[sort] - 1, -most[sort] - 1, most[sort], -1};
            for (int i = 0; i < put.length; i++) {
                due("set", 1, x.set(0, 155 + i, put[i]));
                due(put[i] + " in sort " + sort, kept[i], x.element(0, 155 + i));
            }
            due("row anew", 1, x.row(0, sort, 160));
            due("0 again", 0, x.element(0, 159));
        }
        HalfOfItFalse x = new HalfOfItFalse();
        due("no sort", -6, x.row(0, -1, 1));
        due("no sort", -6, x.row(0, 4, 1));
    }

    private static void asInts() {
        C.about("Term 3: as ints: of longs the lowest 32 bits");
        HalfOfItFalse x = Checks.make(2, 2, 0, 0);
        Checks.fill(x, 0, 3, 1 + (1L << 32), (1L << 63) + 0, 1L << 31, -(1L << 32));
        due("errands: 1, 0, none, 0", 2, x.errands(0, 0));
        due("placed", 0b1010, x.placed(0, 0));
        Checks.fill(x, 1, 3, 10 - (1L << 32), (1L << 40) + 0, 1L << 31);
        due("judge: 10, 0, none", 2, x.judge(1, 3));
        x.row(2, 3, 6);
        for (int i = 0; i < 6; i++) {
            x.set(2, i, "fact 5".charAt(i) - (1L << 32 + i));
        }
        due("town", 1, x.town(2));
        x.set(2, 5, '5' + (1L << 31));
        due("town", -6, x.town(2));
        due("fault", 5, x.fault());
    }

    private static final int[] ODD = {0, 1, -1, BIG, BIG - 1, SMALL, SMALL + 1, 1 << 30, 715827883};

    /** Whatever a body answers, and in whatever order, the Java classes answer it too. */
    private static void acts() {
        C.about("Term 3: ACTS, BODIES");
        for (int kind = 0; kind <= 6; kind++) {
            for (int k : new int[] {0, 1, 1023}) {
                for (int x : ODD) {
                    for (int act = 0; act < 3; act++) {
                        act(kind, k, act, x);
                    }
                }
            }
        }
    }

    private static void act(int kind, int k, int act, int x) {
        HalfOfItFalse town = new HalfOfItFalse();
        for (int m = 0; m < 6; m++) {
            town.speaker(kind, k);
        }
        for (int m = 0; m < 6; m += 5) {
            List<Integer> ran = new ArrayList<>();
            int want = Bodies.make(kind, m, k, ran).act(act, x);
            due("kind " + kind + " act " + act + " of " + x, want, town.act(m, act, x));
            due("ran", ran.size(), town.status(8));
            for (int i = 0; i < ran.size(); i++) {
                due("body " + i, ran.get(i), town.trace(i));
            }
        }
    }

    private static void actsWrap() {
        C.about("Term 3: ACTS of SPEAKERS, with x (wrapping)");
        HalfOfItFalse x = new HalfOfItFalse();
        for (int kind = 0; kind <= 5; kind++) {
            x.speaker(kind, 1023);
        }
        due("10", BIG, x.act(0, 0, BIG));
        due("11", -2, x.act(0, 1, BIG));
        due("10 and 20", SMALL + 1023, x.act(1, 0, BIG));
        due("40", 3 * 2 * (SMALL + 1), x.act(2, 1, BIG));
        due("30", SMALL + 3 + 1023, x.act(3, 0, BIG));
        due("50", -2 * (SMALL + 3), x.act(4, 1, BIG));
        due("60", -2 * (SMALL + 4) ^ 5, x.act(5, 1, BIG));
        due("12", SMALL * 2 ^ SMALL - 1023, x.act(0, 2, SMALL));
        HalfOfItFalse y = Checks.make(0, 4, 2, 6);
        due("70", -2, y.act(0, 0, BIG));
        due("71", ((SMALL - 5) * 4) ^ (SMALL - 10) * 2, y.act(0, 2, SMALL));
    }

    private static void trace() {
        C.about("Term 3: THE TRACE: the bodies of the latest act(), in the order they began");
        HalfOfItFalse x = Checks.make(0, 4, 2, 3, 0);
        due("none yet", -1, x.trace(0));
        due("none yet", 0, x.status(8));
        x.act(0, 2, 0);
        int[] longest = {31, 12, 11, 30, 20, 10, 30, 20, 10};
        due("ran", 9, x.status(8));
        for (int i = 0; i < 9; i++) {
            due("trace " + i, longest[i], x.trace(i));
        }
        for (int i : new int[] {-1, 9, 19, 20, 21, SMALL, BIG}) {
            due("none such: " + i, -1, x.trace(i));
        }
        x.act(1, 0, 0);
        due("of the latest alone", 10, x.trace(0));
        due("of the latest alone", -1, x.trace(1));
        due("ran", 1, x.status(8));
    }
}
