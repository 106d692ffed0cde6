/** A town in which just so many of one's sayings of a day are true: see ../shared/DOC.md. */
public final class HalfOfItFalse {
    public static final int NONE = -1;

    private static final int MOST_FACTS = 6;
    private static final int MOST_SPEAKERS = 6;
    private static final int MOST_SAYINGS = 24;
    private static final int MOST_HARM = 99;
    private static final int MOST_MARK = 1023;
    private static final int LEAST_DAY = 2;
    private static final int MOST_DAY = 10;
    private static final int MOST_QUESTIONS = 2;
    private static final int MOST_SHOWING = 10;
    private static final int MOST_MESSAGES = 1024;
    private static final int MOST_ERRANDS = 10;
    private static final int MOST_IDLE = 10;
    private static final int MOST_ELEMENTS = 160;
    private static final int MOST_SORT = 3;
    private static final int SHELVES = 8;
    private static final int KEPT_BODIES = 20;

    private static final int SPEAKER = 0;
    private static final int KIND = 1;
    private static final int SLY = 2;
    private static final int LATE = 3;
    private static final int CODE = 4;
    private static final int TOLD = 5;
    private static final int PAIRS = 6;
    private static final int[] ABOVE = {NONE, SPEAKER, SPEAKER, KIND, SPEAKER, CODE, SPEAKER};

    private static final int NOBODY = -1;
    private static final int OTHER = -2;
    private static final int NOTHING = -3;
    private static final int BELOW = -4;
    private static final int BEYOND = -5;
    private static final int WRONG = -6;
    private static final int ROOM = -7;
    private static final int REFUSALS = 7;

    /** A set of sayings that no saying is missing in. */
    private static final long ALL = -1L;

    /** For each fact the worlds (bits) in which it is so; good for any number of facts. */
    private static final long[] SO = {
        0xAAAAAAAAAAAAAAAAL, 0xCCCCCCCCCCCCCCCCL, 0xF0F0F0F0F0F0F0F0L,
        0xFF00FF00FF00FF00L, 0xFFFF0000FFFF0000L, 0xFFFFFFFF00000000L};

    private final Town town = new Town();
    /** The image, once one is taken. */
    private final Town kept = new Town();
    /** Where texts and told days are tried out, so that the town itself need not be undone. */
    private final Town trial = new Town();
    private final Shelf[] shelves = new Shelf[SHELVES];
    private final Reader reader = new Reader();
    private final Acts acts = new Acts();
    private final int[] refused = new int[REFUSALS + 1];
    private boolean imaged = false;
    private int latestFault = NONE;

    public HalfOfItFalse() {
        for (int i = 0; i < SHELVES; i++) {
            shelves[i] = new Shelf();
        }
    }

    // Refusals, and what is the same in many calls.

    private int refuse(int number) {
        return refuse(number, number);
    }

    /** Some calls answer another number than the one that they are counted as. */
    private int refuse(int number, int answer) {
        int which = -number;
        if (which > 0 && which < refused.length) {
            refused[which]++;
        }
        return answer;
    }

    private static boolean isShelf(int s) {
        return s >= 0 && s < SHELVES;
    }

    private static boolean isKind(int kind) {
        return kind >= SPEAKER && kind <= PAIRS;
    }

    /** The worlds in which it is true that a fact is so, or that it isn't. */
    private static long truthOf(int fact, boolean so) {
        return so ? SO[fact] : ~SO[fact];
    }

    private static boolean within(int v, int least, int most) {
        return v >= least && v <= most;
    }

    private static boolean isUnder(int kind, int wanted) {
        int k = kind;
        for (int up = 0; up < ABOVE.length && isKind(k); up++) {
            if (k == wanted) {
                return true;
            }
            k = ABOVE[k];
        }
        return false;
    }

    /** Why a shelf gives no row: the refusal, or 0 if it holds one. */
    private int noRow(int s) {
        if (!isShelf(s)) {
            return NOBODY;
        }
        if (shelves[s].isSpeaker()) {
            return OTHER;
        }
        return shelves[s].isRow() ? 0 : NOTHING;
    }

    // Shelves.

    public int row(int s, int sort, int n) {
        if (!isShelf(s)) {
            return refuse(NOBODY);
        }
        if (n < 0) {
            return refuse(BELOW);
        }
        if (!within(sort, 0, MOST_SORT)) {
            return refuse(WRONG);
        }
        if (n > MOST_ELEMENTS) {
            return refuse(ROOM);
        }
        shelves[s].makeRow(sort, n);
        return 1;
    }

    public int set(int s, int i, long v) {
        int no = noRow(s);
        if (no != 0) {
            return refuse(no);
        }
        if (!shelves[s].has(i)) {
            return refuse(BEYOND);
        }
        shelves[s].put(i, v);
        return 1;
    }

    public int copy(int p, int q, int i, int j, int n) {
        if (!isShelf(p) || !isShelf(q)) {
            return refuse(NOBODY);
        }
        Shelf from = shelves[p];
        Shelf to = shelves[q];
        if (from.isSpeaker() || to.isSpeaker()
                || from.isRow() && to.isRow() && from.held != to.held) {
            return refuse(OTHER);
        }
        if (!from.isRow() || !to.isRow()) {
            return refuse(NOTHING);
        }
        if (n < 0) {
            return refuse(BELOW);
        }
        if (!from.hasPart(i, n) || !to.hasPart(j, n)) {
            return refuse(BEYOND);
        }
        System.arraycopy(from.elements, i, to.elements, j, n);
        return 1;
    }

    public long element(int s, int i) {
        return isShelf(s) && shelves[s].has(i) ? shelves[s].elements[i] : 0L;
    }

    public int show(int s, int speaker) {
        if (!isShelf(s) || speaker != NONE && !town.isSpeaker(speaker)) {
            return refuse(NOBODY);
        }
        shelves[s].held = speaker;
        return speaker == NONE ? 0 : 1;
    }

    public int holds(int s) {
        return isShelf(s) ? shelves[s].held : NONE;
    }

    public int says(int s, int kind) {
        if (!isShelf(s) || !isKind(kind)) {
            return refuse(NOBODY);
        }
        if (shelves[s].isRow()) {
            return refuse(OTHER);
        }
        int speaker = shelves[s].held;
        if (!town.isSpeaker(speaker)) {
            return refuse(NOTHING);
        }
        if (!isUnder(town.kinds[speaker], kind)) {
            return refuse(OTHER);
        }
        int said = town.counts[speaker];
        if (kind == SPEAKER) {
            return said;
        }
        if (kind == PAIRS) {
            return said / 2;
        }
        return town.mustBeTrue(speaker, said) ? 1 : 0;
    }

    // The town.

    public int fact(int harm) {
        if (!within(harm, 0, MOST_HARM)) {
            return refuse(WRONG);
        }
        if (town.facts >= MOST_FACTS) {
            return refuse(ROOM);
        }
        town.addFact(harm);
        return town.facts - 1;
    }

    public int speaker(int kind, int a) {
        if (!isKind(kind)) {
            return refuse(NOBODY);
        }
        if (!within(a, 0, MOST_MARK)) {
            return refuse(WRONG);
        }
        if (town.speakers >= MOST_SPEAKERS) {
            return refuse(ROOM);
        }
        town.addSpeaker(kind, a);
        return town.speakers - 1;
    }

    public int law(int n, int t) {
        if (!within(n, LEAST_DAY, MOST_DAY) || !within(t, 0, n) || town.sayings > 0) {
            return refuse(WRONG);
        }
        int before = 100 * town.perDay + town.trueOnes;
        town.perDay = n;
        town.trueOnes = t;
        return before;
    }

    public int speakerOf(int speaker, int what) {
        if (!town.isSpeaker(speaker)) {
            return refuse(BEYOND);
        }
        switch (what) {
            case 0:
                return town.kinds[speaker];
            case 1:
                return town.marks[speaker];
            case 2:
                return town.counts[speaker];
            default:
                return refuse(BEYOND);
        }
    }

    public int harm(int fact, int v) {
        if (!town.isFact(fact)) {
            return refuse(NOBODY);
        }
        if (!within(v, 0, MOST_HARM)) {
            return refuse(WRONG);
        }
        int before = town.harms[fact];
        town.harms[fact] = v;
        return before;
    }

    public int say(int speaker, int fact, boolean so) {
        if (!town.isSpeaker(speaker) || !town.isFact(fact)) {
            return refuse(NOBODY);
        }
        if (town.isFull(speaker)) {
            return refuse(WRONG);
        }
        long then = town.after(speaker, fact, so, town.possible(ALL));
        if (then == 0) {
            return refuse(WRONG);
        }
        if (town.sayings >= MOST_SAYINGS) {
            return refuse(ROOM);
        }
        town.put(speaker, fact, so);
        return Long.bitCount(then);
    }

    public int unsay() {
        if (town.sayings == 0) {
            return refuse(WRONG);
        }
        town.takeBack();
        return town.sayings;
    }

    public int sayingOf(int i) {
        return i >= 0 && i < town.sayings ? town.words[i] : NONE;
    }

    public int known(int fact, boolean so) {
        if (!town.isFact(fact)) {
            return refuse(NOBODY);
        }
        // By the worlds, not by what is left: else there might be no world at all then.
        if ((town.possible(ALL) & truthOf(fact, so)) == 0) {
            return refuse(WRONG);
        }
        town.learn(fact, so);
        return Long.bitCount(town.left);
    }

    public int town(int s) {
        int no = noRow(s);
        if (no != 0) {
            return refuse(no);
        }
        trial.takeOver(town);
        latestFault = reader.read(shelves[s], trial);
        if (latestFault != NONE) {
            return refuse(WRONG);
        }
        town.takeOver(trial);
        return reader.items;
    }

    public int fault() {
        return latestFault;
    }

    // What may be said.

    public int canBe(int speaker, int world) {
        if (!town.isSpeaker(speaker) || !town.isWorld(world)) {
            return refuse(NOBODY);
        }
        return bit(town.allowed(speaker, ALL), world);
    }

    public int can(int speaker, int fact, int what) {
        if (!town.isSpeaker(speaker) || !town.isFact(fact)) {
            return refuse(NOBODY);
        }
        if (!within(what, 0, 3)) {
            return refuse(BEYOND);
        }
        if (town.isFull(speaker)) {
            return 0;
        }
        long worlds = town.possible(ALL);
        long so = town.after(speaker, fact, true, worlds);
        long notSo = town.after(speaker, fact, false, worlds);
        switch (what) {
            case 0:
                return isAny(so & ~SO[fact] | notSo & SO[fact]);
            case 1:
                return isAny(so & SO[fact] | notSo & ~SO[fact]);
            case 2:
                return isAny(so);
            default:
                return isAny(notSo);
        }
    }

    private static int isAny(long worlds) {
        return worlds == 0 ? 0 : 1;
    }

    private static int bit(long worlds, int world) {
        return (int) (worlds >>> world & 1L);
    }

    public long worlds() {
        return town.possible(ALL);
    }

    public int many() {
        return Long.bitCount(town.possible(ALL));
    }

    public int sure(int fact) {
        if (!town.isFact(fact)) {
            return refuse(NOBODY, -11);
        }
        return surety(town.possible(ALL), fact);
    }

    /** 1 or 0 if a fact is so in all of the worlds, or in none; NONE if it isn't sure. */
    private static int surety(long worlds, int fact) {
        boolean inSome = (worlds & SO[fact]) != 0;
        boolean notInSome = (worlds & ~SO[fact]) != 0;
        if (inSome == notInSome) {
            return NONE;
        }
        return inSome ? 1 : 0;
    }

    public int sures() {
        long worlds = town.possible(ALL);
        int bits = 0;
        for (int f = 0; f < town.facts; f++) {
            if (surety(worlds, f) != NONE) {
                bits |= 1 << f;
            }
        }
        return bits;
    }

    public int shown(int fact) {
        if (!town.isFact(fact)) {
            return refuse(NOBODY);
        }
        if (surety(town.possible(ALL), fact) == NONE) {
            return refuse(BEYOND);
        }
        for (int k = 0; k < town.sayings; k++) {
            if (surety(town.possible((1L << k) - 1), fact) != NONE) {
                return k;
            }
        }
        return town.sayings;
    }

    public int proof(int fact) {
        if (!town.isFact(fact)) {
            return refuse(NOBODY);
        }
        int now = surety(town.possible(ALL), fact);
        if (now == NONE) {
            return refuse(BEYOND);
        }
        if (town.sayings > MOST_SHOWING) {
            return refuse(ROOM);
        }
        int fewest = town.sayings;
        for (int chosen = 0; chosen < 1 << town.sayings; chosen++) {
            int size = Integer.bitCount(chosen);
            if (size < fewest && surety(town.possible(chosen), fact) == now) {
                fewest = size;
            }
        }
        return fewest;
    }

    // Questions.

    public int worst(int speaker, int fact) {
        if (!town.isSpeaker(speaker) || !town.isFact(fact)) {
            return refuse(NOBODY);
        }
        if (town.isFull(speaker)) {
            return refuse(WRONG);
        }
        return worstOf(speaker, fact, town.possible(ALL));
    }

    private int worstOf(int speaker, int fact, long worlds) {
        int so = Long.bitCount(town.after(speaker, fact, true, worlds));
        int notSo = Long.bitCount(town.after(speaker, fact, false, worlds));
        return Math.max(so, notSo);
    }

    public int next() {
        long worlds = town.possible(ALL);
        int best = NONE;
        int least = 0;
        for (int s = 0; s < town.speakers; s++) {
            for (int f = 0; f < town.facts && !town.isFull(s); f++) {
                int worst = worstOf(s, f, worlds);
                if (best == NONE || worst < least) {
                    best = 10 * s + f;
                    least = worst;
                }
            }
        }
        return best == NONE ? refuse(BEYOND) : best;
    }

    public int knows(int fact, int k) {
        if (!town.isFact(fact)) {
            return refuse(NOBODY);
        }
        if (!within(k, 0, MOST_QUESTIONS)) {
            return refuse(WRONG);
        }
        return isKnownIn(k, fact, town.possible(ALL)) ? 1 : 0;
    }

    public int tree(int fact) {
        if (!town.isFact(fact)) {
            return refuse(NOBODY, -11);
        }
        long worlds = town.possible(ALL);
        for (int k = 0; k <= MOST_QUESTIONS; k++) {
            if (isKnownIn(k, fact, worlds)) {
                return k;
            }
        }
        return NONE;
    }

    private boolean isKnownIn(int k, int fact, long worlds) {
        if (surety(worlds, fact) != NONE) {
            return true;
        }
        if (k <= 0 || k > MOST_QUESTIONS) {
            return false;
        }
        for (int s = 0; s < town.speakers; s++) {
            for (int about = 0; about < town.facts && !town.isFull(s); about++) {
                if (leavesKnown(k, fact, worlds, s, about, true)
                        && leavesKnown(k, fact, worlds, s, about, false)) {
                    return true;
                }
            }
        }
        return false;
    }

    private boolean leavesKnown(int k, int fact, long worlds, int speaker, int about, boolean so) {
        town.put(speaker, about, so);
        long then = worlds & town.allowed(speaker, ALL);
        boolean leaves = then == 0 || isKnownIn(k - 1, fact, then);
        town.takeBack();
        return leaves;
    }

    // Rows, messages, errands, trust.

    public int rows(int speaker, int m) {
        if (!town.isSpeaker(speaker)) {
            return refuse(NOBODY);
        }
        if (!within(m, 0, town.perDay)) {
            return refuse(WRONG);
        }
        return town.lawfulRows(speaker, m);
    }

    public int tells(int speaker, int x) {
        if (!town.isSpeaker(speaker)) {
            return refuse(NOBODY, -11);
        }
        if (!within(x, 1, MOST_MESSAGES)) {
            return refuse(WRONG, -16);
        }
        for (int m = 0; m <= town.perDay; m++) {
            if (town.lawfulRows(speaker, m) >= x) {
                return m;
            }
        }
        return NONE;
    }

    public int errands(int s, int a) {
        int no = noErrands(s, a);
        if (no != 0) {
            return refuse(no);
        }
        Shelf row = shelves[s];
        int lies = liesPlaced(row, a);
        int sum = 0;
        for (int i = 0; i < row.size; i++) {
            int fact = row.asInt(i);
            if ((lies >> i & 1) == 1 && town.isFact(fact)) {
                sum += town.harms[fact];
            }
        }
        return sum;
    }

    public int placed(int s, int a) {
        int no = noErrands(s, a);
        return no != 0 ? refuse(no) : liesPlaced(shelves[s], a);
    }

    private int noErrands(int s, int a) {
        int no = noRow(s);
        if (no != 0) {
            return no;
        }
        return shelves[s].size > MOST_ERRANDS || !within(a, 0, MOST_IDLE) ? WRONG : 0;
    }

    private int liesPlaced(Shelf row, int idle) {
        int lies = town.perDay - town.trueOnes - idle;
        int places = 0;
        for (int lie = 0; lie < lies; lie++) {
            int place = leastHarmful(row, places);
            if (place == NONE) {
                return places;
            }
            places |= 1 << place;
        }
        return places;
    }

    /** The first place of the least harm that is no lie yet; NONE if no fact is left. */
    private int leastHarmful(Shelf row, int taken) {
        int best = NONE;
        int least = 0;
        for (int i = 0; i < row.size; i++) {
            int fact = row.asInt(i);
            if ((taken >> i & 1) == 0 && town.isFact(fact)
                    && (best == NONE || town.harms[fact] < least)) {
                best = i;
                least = town.harms[fact];
            }
        }
        return best;
    }

    public int trust(int speaker) {
        if (!town.isSpeaker(speaker)) {
            return refuse(NOBODY, -1000001);
        }
        if (town.isFull(speaker)) {
            return refuse(WRONG, -1000006);
        }
        long worlds = town.possible(ALL);
        if (!town.isFree(speaker)) {
            return town.mustBeTrue(speaker, town.counts[speaker]) ? Long.bitCount(worlds) : 0;
        }
        long truly = worlds & town.allowedNext(speaker, true);
        long falsely = worlds & town.allowedNext(speaker, false);
        return Long.bitCount(truly) - Long.bitCount(falsely);
    }

    public int witness() {
        int best = NONE;
        int most = 0;
        for (int s = 0; s < town.speakers; s++) {
            int without = Long.bitCount(town.possibleWithout(s));
            if (best == NONE || without > most) {
                best = s;
                most = without;
            }
        }
        return best == NONE ? refuse(BEYOND) : best;
    }

    // Days.

    public int judge(int s, int n) {
        int no = noRow(s);
        if (no != 0) {
            return refuse(no);
        }
        if (n < 0) {
            return refuse(BELOW);
        }
        if (n > shelves[s].size) {
            return refuse(BEYOND);
        }
        if (n > MOST_SAYINGS) {
            return refuse(WRONG);
        }
        trial.takeOver(town);
        long worlds = trial.possible(ALL);
        for (int i = 0; i < n; i++) {
            worlds = toldAfter(shelves[s].asInt(i), worlds);
            if (worlds == 0) {
                return i;
            }
        }
        return NONE;
    }

    /** Says a saying in the trial: the worlds then, none if it can't be. */
    private long toldAfter(int saying, long worlds) {
        int speaker = saying / 100;
        int fact = saying / 10 % 10;
        int so = saying % 10;
        if (saying < 0 || so > 1 || !trial.isFact(fact) || !trial.isSpeaker(speaker)
                || trial.isFull(speaker)) {
            return 0L;
        }
        trial.put(speaker, fact, so == 1);
        return worlds & trial.allowed(speaker, ALL);
    }

    public int sunset() {
        town.left = town.possible(ALL);
        town.forgetSayings();
        town.days++;
        return Long.bitCount(town.left);
    }

    // In truth, by draws.

    public int draw() {
        long worlds = town.possible(ALL);
        int count = Long.bitCount(worlds);
        int place = town.drawBelow(count);
        for (int w = 0; w < 64; w++) {
            if (bit(worlds, w) == 1) {
                if (place == 0) {
                    town.drawn = w;
                }
                place--;
            }
        }
        return count;
    }

    public int ask(int speaker, int fact) {
        if (!town.isSpeaker(speaker) || !town.isFact(fact)) {
            return refuse(NOBODY);
        }
        if (town.isFull(speaker) || town.drawn == NONE) {
            return refuse(WRONG);
        }
        int seedBefore = town.seed;
        int truth = truthInTruth(speaker);
        boolean so = bit(SO[fact], town.drawn) == truth;
        if (truth == NONE || town.after(speaker, fact, so, town.possible(ALL)) == 0) {
            town.seed = seedBefore;
            return refuse(WRONG);
        }
        if (town.sayings >= MOST_SAYINGS) {
            town.seed = seedBefore;
            return refuse(ROOM);
        }
        town.put(speaker, fact, so);
        return so ? 1 : 0;
    }

    /** Whether what is said next in the drawn world is true: 1, 0; NONE if it can't be. */
    private int truthInTruth(int speaker) {
        if (!town.isFree(speaker)) {
            return town.mustBeTrue(speaker, town.counts[speaker]) ? 1 : 0;
        }
        int truly = bit(town.allowedNext(speaker, true), town.drawn);
        int falsely = bit(town.allowedNext(speaker, false), town.drawn);
        if (truly == 1 && falsely == 1) {
            return town.drawBelow(2);
        }
        if (truly == 0 && falsely == 0) {
            return NONE;
        }
        return truly;
    }

    public int truly(int world) {
        if (!town.isWorld(world)) {
            return refuse(NOBODY);
        }
        if (town.drawn == NONE) {
            return refuse(WRONG);
        }
        return town.drawn == world ? 1 : 0;
    }

    public int seed(int v) {
        int before = town.seed;
        town.seed = v;
        return before;
    }

    // Acts, the image, what there is.

    public int act(int speaker, int act, int x) {
        acts.begin();
        if (!town.isSpeaker(speaker) || !within(act, Acts.SAYS, Acts.KNOWS)) {
            return 0;
        }
        return acts.perform(town.kinds[speaker], speaker, town.marks[speaker], act, x);
    }

    public int trace(int i) {
        return i >= 0 && i < KEPT_BODIES && i < acts.ran ? acts.bodies[i] : NONE;
    }

    public int image() {
        kept.takeOver(town);
        imaged = true;
        return town.sayings;
    }

    public int restore() {
        if (!imaged) {
            return refuse(WRONG);
        }
        town.takeOver(kept);
        for (int s = 0; s < SHELVES; s++) {
            if (shelves[s].isSpeaker() && !town.isSpeaker(shelves[s].held)) {
                shelves[s].held = NONE;
            }
        }
        return town.sayings;
    }

    public int status(int what) {
        if (within(what, 11, 10 + REFUSALS)) {
            return refused[what - 10];
        }
        switch (what) {
            case 0:
                return town.facts;
            case 1:
                return town.speakers;
            case 2:
                return town.sayings;
            case 3:
                return Long.bitCount(town.left);
            case 4:
                return town.perDay;
            case 5:
                return town.trueOnes;
            case 6:
                return town.days;
            case 7:
                return town.seed;
            case 8:
                return acts.ran;
            default:
                return NONE;
        }
    }

    /** All that an image keeps. */
    private static final class Town {
        /** A told day may go on behind a full one of today. */
        private static final int MOST_TOLD = 2 * MOST_SAYINGS;

        private final int[] harms = new int[MOST_FACTS];
        private final int[] kinds = new int[MOST_SPEAKERS];
        private final int[] marks = new int[MOST_SPEAKERS];
        private final int[] counts = new int[MOST_SPEAKERS];
        private final int[] who = new int[MOST_TOLD];
        private final int[] numbers = new int[MOST_TOLD];
        private final int[] words = new int[MOST_TOLD];
        /** The worlds in which a saying is true. */
        private final long[] truths = new long[MOST_TOLD];
        private int facts = 0;
        private int speakers = 0;
        private int sayings = 0;
        private long left = 1L;
        private int perDay = 4;
        private int trueOnes = 2;
        private int days = 0;
        private int seed = 1;
        private int drawn = NONE;

        void takeOver(Town other) {
            System.arraycopy(other.harms, 0, harms, 0, MOST_FACTS);
            System.arraycopy(other.kinds, 0, kinds, 0, MOST_SPEAKERS);
            System.arraycopy(other.marks, 0, marks, 0, MOST_SPEAKERS);
            System.arraycopy(other.counts, 0, counts, 0, MOST_SPEAKERS);
            System.arraycopy(other.who, 0, who, 0, MOST_TOLD);
            System.arraycopy(other.numbers, 0, numbers, 0, MOST_TOLD);
            System.arraycopy(other.words, 0, words, 0, MOST_TOLD);
            System.arraycopy(other.truths, 0, truths, 0, MOST_TOLD);
            facts = other.facts;
            speakers = other.speakers;
            sayings = other.sayings;
            left = other.left;
            perDay = other.perDay;
            trueOnes = other.trueOnes;
            days = other.days;
            seed = other.seed;
            drawn = other.drawn;
        }

        boolean isFact(int fact) {
            return fact >= 0 && fact < facts;
        }

        boolean isSpeaker(int speaker) {
            return speaker >= 0 && speaker < speakers;
        }

        boolean isWorld(int world) {
            return world >= 0 && world < 1 << facts;
        }

        boolean isFull(int speaker) {
            return counts[speaker] >= perDay;
        }

        /** Whether the kind leaves open which sayings are true. */
        boolean isFree(int speaker) {
            return kinds[speaker] == SPEAKER || kinds[speaker] == PAIRS;
        }

        void addFact(int harm) {
            if (facts < MOST_FACTS) {
                harms[facts] = harm;
                left |= left << (1 << facts);
                facts++;
            }
        }

        void addSpeaker(int kind, int a) {
            if (speakers < MOST_SPEAKERS) {
                kinds[speakers] = kind;
                marks[speakers] = a;
                counts[speakers] = 0;
                speakers++;
            }
        }

        void put(int speaker, int fact, boolean so) {
            putTrueIn(speaker, 100 * speaker + 10 * fact + (so ? 1 : 0), truthOf(fact, so));
        }

        private void putTrueIn(int speaker, int word, long truth) {
            if (sayings < MOST_TOLD) {
                who[sayings] = speaker;
                numbers[sayings] = counts[speaker];
                words[sayings] = word;
                truths[sayings] = truth;
                counts[speaker]++;
                sayings++;
            }
        }

        void takeBack() {
            if (sayings > 0) {
                sayings--;
                counts[who[sayings]]--;
            }
        }

        void forgetSayings() {
            sayings = 0;
            for (int s = 0; s < speakers; s++) {
                counts[s] = 0;
            }
        }

        void learn(int fact, boolean so) {
            left &= truthOf(fact, so);
        }

        int drawBelow(int n) {
            seed = seed * 1103515245 + 12345;
            return n > 0 ? (seed >>> 16) % n : 0;
        }

        /** The worlds, as if the chosen sayings alone (bits) had been said. */
        long possible(long chosen) {
            long worlds = left;
            for (int s = 0; s < speakers; s++) {
                worlds &= allowed(s, chosen);
            }
            return worlds;
        }

        long possibleWithout(int speaker) {
            long worlds = left;
            for (int s = 0; s < speakers; s++) {
                if (s != speaker) {
                    worlds &= allowed(s, ALL);
                }
            }
            return worlds;
        }

        /** Which of the worlds are left by one saying more. */
        long after(int speaker, int fact, boolean so, long worlds) {
            put(speaker, fact, so);
            long then = worlds & allowed(speaker, ALL);
            takeBack();
            return then;
        }

        /** Where their sayings can be with one more that is true, or false, wherever it is said. */
        long allowedNext(int speaker, boolean truly) {
            putTrueIn(speaker, 0, truly ? -1L : 0L);
            long allowed = allowed(speaker, ALL);
            takeBack();
            return allowed;
        }

        /** Where the chosen ones of a speaker's sayings can be. */
        long allowed(int speaker, long chosen) {
            if (kinds[speaker] == SPEAKER) {
                return allowedByCount(speaker, chosen);
            }
            if (kinds[speaker] == PAIRS) {
                return allowedByPairs(speaker, chosen);
            }
            long allowed = -1L;
            for (int i = 0; i < sayings; i++) {
                if (isChosen(i, speaker, chosen)) {
                    allowed &= mustBeTrue(speaker, numbers[i]) ? truths[i] : ~truths[i];
                }
            }
            return allowed;
        }

        private boolean isChosen(int i, int speaker, long chosen) {
            return who[i] == speaker && (chosen >>> i & 1L) == 1L;
        }

        /** Counts the true ones of all worlds at once: a binary digit of the count in each word. */
        private long allowedByCount(int speaker, long chosen) {
            long ones = 0L;
            long twos = 0L;
            long fours = 0L;
            long eights = 0L;
            int said = 0;
            for (int i = 0; i < sayings; i++) {
                if (isChosen(i, speaker, chosen)) {
                    long toTwos = ones & truths[i];
                    long toFours = twos & toTwos;
                    ones ^= truths[i];
                    twos ^= toTwos;
                    eights ^= fours & toFours;
                    fours ^= toFours;
                    said++;
                }
            }
            long allowed = 0L;
            int most = Math.min(trueOnes, said);
            for (int v = Math.max(0, said - (perDay - trueOnes)); v <= most; v++) {
                allowed |= digit(ones, v) & digit(twos, v >> 1) & digit(fours, v >> 2)
                        & digit(eights, v >> 3);
            }
            return allowed;
        }

        private static long digit(long bits, int wanted) {
            return (wanted & 1) == 1 ? bits : ~bits;
        }

        private long allowedByPairs(int speaker, long chosen) {
            long allowed = -1L;
            int before = NONE;
            for (int i = 0; i < sayings; i++) {
                if (isChosen(i, speaker, chosen)) {
                    if (before != NONE && (numbers[i] & 1) == 1
                            && numbers[before] == numbers[i] - 1) {
                        allowed &= truths[before] ^ truths[i];
                    }
                    before = i;
                }
            }
            return allowed;
        }

        /** For all kinds but SPEAKER and PAIRS: whether the saying of a number must be true. */
        boolean mustBeTrue(int speaker, int number) {
            switch (kinds[speaker]) {
                case KIND:
                    return number < trueOnes;
                case SLY:
                    return number >= perDay - trueOnes;
                case LATE:
                    return mustLateBeTrue(number);
                case CODE:
                    return (marks[speaker] >> number & 1) == 1;
                case TOLD:
                    return (marks[speaker] >> number & 1) == 0;
                default:
                    return false;
            }
        }

        private boolean mustLateBeTrue(int number) {
            if (trueOnes == 0 || trueOnes == perDay) {
                return number < trueOnes;
            }
            return number < trueOnes - 1 || number == perDay - 1;
        }

        int lawfulRows(int speaker, int m) {
            if (kinds[speaker] == PAIRS) {
                return 1 << (m + 1) / 2;
            }
            if (kinds[speaker] != SPEAKER) {
                return 1;
            }
            int sum = 0;
            int choices = 1;
            for (int trues = 0; trues <= m; trues++) {
                if (trues <= trueOnes && m - trues <= perDay - trueOnes) {
                    sum += choices;
                }
                choices = choices * (m - trues) / (trues + 1);
            }
            return sum;
        }
    }

    /** One place for nothing, a row, or a speaker; its elements are made once, for all its rows. */
    private static final class Shelf {
        private static final int ROWS = 100;

        private final long[] elements = new long[MOST_ELEMENTS];
        /** NONE, a speaker's number, or 100 and the sort of the row. */
        private int held = NONE;
        private int size = 0;

        boolean isRow() {
            return held >= ROWS;
        }

        boolean isSpeaker() {
            return held != NONE && held < ROWS;
        }

        void makeRow(int sort, int n) {
            held = ROWS + sort;
            size = Math.min(n, MOST_ELEMENTS);
            for (int i = 0; i < size; i++) {
                elements[i] = 0L;
            }
        }

        boolean has(int i) {
            return isRow() && i >= 0 && i < size;
        }

        boolean hasPart(int i, int n) {
            return i >= 0 && n >= 0 && (long) i + n <= size;
        }

        void put(int i, long v) {
            switch (held - ROWS) {
                case 0:
                    elements[i] = (byte) v;
                    break;
                case 1:
                    elements[i] = (short) v;
                    break;
                case 2:
                    elements[i] = (int) v;
                    break;
                default:
                    elements[i] = v;
                    break;
            }
        }

        int asInt(int i) {
            return (int) elements[i];
        }
    }

    /** Reads a town from a text; each function answers whether the text could go on. */
    private static final class Reader {
        private static final int MOST_DIGITS = 4;

        private Shelf text = null;
        private Town told = null;
        private int at = 0;
        private int wrongAt = NONE;
        private int items = 0;
        private int number = 0;
        private int firstDigit = 0;

        /** Tells the text over a town, as far as it goes: the fault, or NONE. */
        int read(Shelf row, Town over) {
            text = row;
            told = over;
            at = 0;
            wrongAt = NONE;
            items = 0;
            boolean good = readItem();
            for (int i = 0; good && at < text.size && i < MOST_ELEMENTS; i++) {
                good = isSign(';') && readItem();
            }
            return good ? NONE : wrongAt;
        }

        private boolean wrong(int place) {
            wrongAt = place;
            return false;
        }

        /** The letter at the place that is read; below 0 behind the end. */
        private int letter() {
            return at < text.size ? text.asInt(at) : NONE;
        }

        private boolean isSign(char sign) {
            if (letter() != sign) {
                return wrong(at);
            }
            at++;
            return true;
        }

        /** A word that can't stand as things are is a fault of its own, once all of it is there. */
        private boolean isWord(String word, boolean canStand) {
            int start = at;
            for (int i = 0; i < word.length(); i++) {
                if (!isSign(word.charAt(i))) {
                    return false;
                }
            }
            return canStand ? isSign(' ') : wrong(start);
        }

        private boolean isNumber(int least, int most) {
            firstDigit = at;
            number = 0;
            for (int i = 0; i < MOST_DIGITS && isDigit(); i++) {
                number = 10 * number + letter() - '0';
                at++;
            }
            return at > firstDigit && number >= least && number <= most || wrong(firstDigit);
        }

        private boolean isDigit() {
            return letter() >= '0' && letter() <= '9';
        }

        private boolean readItem() {
            boolean good;
            switch (letter()) {
                case 'f':
                    good = readFact();
                    break;
                case 'm':
                    good = readMan();
                    break;
                case 'l':
                    good = readLaw();
                    break;
                case 's':
                    good = readSays();
                    break;
                case 'k':
                    good = readKnown();
                    break;
                default:
                    good = wrong(at);
                    break;
            }
            items++;
            return good;
        }

        private boolean readFact() {
            if (!isWord("fact", told.facts < MOST_FACTS) || !isNumber(0, MOST_HARM)) {
                return false;
            }
            told.addFact(number);
            return true;
        }

        private boolean readMan() {
            if (!isWord("man", told.speakers < MOST_SPEAKERS) || !isNumber(SPEAKER, PAIRS)) {
                return false;
            }
            int kind = number;
            if (!isSign(' ') || !isNumber(0, MOST_MARK)) {
                return false;
            }
            told.addSpeaker(kind, number);
            return true;
        }

        private boolean readLaw() {
            if (!isWord("law", told.sayings == 0) || !isNumber(LEAST_DAY, MOST_DAY)) {
                return false;
            }
            int perDay = number;
            if (!isSign(' ') || !isNumber(0, perDay)) {
                return false;
            }
            told.perDay = perDay;
            told.trueOnes = number;
            return true;
        }

        private boolean readSays() {
            if (!isWord("says", told.sayings < MOST_SAYINGS) || !isNumber(0, told.speakers - 1)) {
                return false;
            }
            int speaker = number;
            if (told.isFull(speaker)) {
                return wrong(firstDigit);
            }
            if (!isSign(' ') || !isNumber(0, told.facts - 1)) {
                return false;
            }
            int fact = number;
            if (!isSign(' ') || !isNumber(0, 1)) {
                return false;
            }
            boolean so = number == 1;
            if (told.after(speaker, fact, so, told.possible(ALL)) == 0) {
                return wrong(firstDigit);
            }
            told.put(speaker, fact, so);
            return true;
        }

        private boolean readKnown() {
            if (!isWord("known", true) || !isNumber(0, told.facts - 1)) {
                return false;
            }
            int fact = number;
            if (!isSign(' ') || !isNumber(0, 1)) {
                return false;
            }
            boolean so = number == 1;
            if ((told.possible(ALL) & truthOf(fact, so)) == 0) {
                return wrong(firstDigit);
            }
            told.learn(fact, so);
            return true;
        }
    }

    /** Runs the bodies of the kinds, and keeps which ones ran. */
    private static final class Acts {
        private static final int SAYS = 0;
        private static final int HIDES = 1;
        private static final int KNOWS = 2;
        private static final int ACTS = 3;
        /** Far above the longest way from a body to the last one that it comes to. */
        private static final int DEEPEST = 20;

        /** The bodies of each kind: says, hides, knows; 0 where it has none of its own. */
        private static final int[] BODIES = {
            10, 11, 12,
            20, 0, 0,
            0, 40, 0,
            30, 0, 31,
            0, 50, 0,
            0, 60, 0,
            70, 0, 71};

        private final int[] bodies = new int[KEPT_BODIES];
        private int ran = 0;
        private int kind = SPEAKER;
        private int m = 0;
        private int k = 0;

        void begin() {
            ran = 0;
        }

        int perform(int ofKind, int number, int a, int act, int x) {
            kind = ofKind;
            m = number;
            k = a;
            return run(kind, act, x, 0);
        }

        /** The body that a kind has for an act, or the next one above it. */
        private int run(int from, int act, int x, int depth) {
            int owner = ownerOf(from, act);
            if (!isKind(owner) || depth > DEEPEST) {
                return 0;
            }
            int body = BODIES[ACTS * owner + act];
            note(body);
            return resultOf(body, ABOVE[owner], x, depth + 1);
        }

        private int resultOf(int body, int above, int x, int deeper) {
            switch (body) {
                case 10:
                    return x + m;
                case 11:
                    return run(kind, SAYS, x, deeper) * 2;
                case 12:
                    return run(kind, HIDES, x, deeper) ^ run(kind, SAYS, x - k, deeper);
                case 20:
                    return run(above, SAYS, x, deeper) + k;
                case 30:
                    return run(above, SAYS, x + 1, deeper);
                case 31:
                    return run(above, KNOWS, x, deeper) - m;
                case 40:
                    return run(above, HIDES, x, deeper) * 3;
                case 50:
                    return -run(above, HIDES, x, deeper);
                case 60:
                    return run(above, HIDES, x, deeper) ^ 5;
                case 70:
                    return run(above, SAYS, x, deeper) * 2;
                default:
                    return run(above, KNOWS, x - k, deeper);
            }
        }

        private static int ownerOf(int from, int act) {
            int owner = from;
            for (int up = 0; up < ABOVE.length && isKind(owner); up++) {
                if (BODIES[ACTS * owner + act] != 0) {
                    return owner;
                }
                owner = ABOVE[owner];
            }
            return NONE;
        }

        private void note(int body) {
            if (ran < KEPT_BODIES) {
                bodies[ran] = body;
            }
            ran++;
        }
    }
}
