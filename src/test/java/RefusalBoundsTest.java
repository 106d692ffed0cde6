/**
 * Term REFUSALS: each call's every refusal answers its number and changes nothing but its count,
 * and of two that fit the one ahead in the order is answered.
 */
public final class RefusalBoundsTest {
    private static final Checks C = new Checks();
    private static final Twins CROWDED = new Twins(C, RefusalBoundsTest::crowded);
    private static final Twins ROOMLESS = new Twins(C, RefusalBoundsTest::roomless);
    private static final Twins BARE = new Twins(C, HalfOfItFalse::new);

    // The shelves of the crowded town.
    private static final int BYTES = 0;
    private static final int DAY = 1;
    private static final int KIND = 2;
    private static final int CODE = 3;
    private static final int EMPTY = 4;
    private static final int SHORTS = 5;
    private static final int TEXT = 6;
    private static final int LONGS = 7;

    public static void main(String[] args) {
        rows();
        copies();
        shelvesOfSpeakers();
        facts();
        speakers();
        laws();
        saying();
        knowing();
        texts();
        whatMayBeSaid();
        whatIsSure();
        questions();
        rowsAndMessages();
        errands();
        days();
        inTruth();
        images();
        neverRefused();
        counts();
        C.end();
    }

    /** Three facts, the first SURE; six speakers, of whom 1's day is full; something on shelves. */
    private static HalfOfItFalse crowded() {
        HalfOfItFalse x = new HalfOfItFalse();
        x.fact(5);
        x.fact(30);
        x.fact(99);
        for (int kind = 0; kind < 5; kind++) {
            x.speaker(kind == 2 ? 2 : kind, 5);
        }
        x.speaker(6, 5);
        for (int i = 0; i < 4; i++) {
            x.say(1, 0, i < 2);
        }
        x.say(0, 1, true);
        x.say(0, 1, true);
        x.draw();
        x.image();
        x.say(2, 2, true);
        Checks.fill(x, BYTES, 0, 1, 2, 3);
        Checks.fill(x, DAY, 2, 100, 11, 10);
        x.show(KIND, 1);
        x.show(CODE, 4);
        x.row(SHORTS, 1, 11);
        Checks.write(x, TEXT, "fac");
        x.row(LONGS, 3, 30);
        x.town(TEXT);
        x.act(3, 2, 7);
        return x;
    }

    /** 24 sayings; the days of 0, 1 and 2 are full, that of 3 (a KIND) isn't. */
    private static HalfOfItFalse roomless() {
        HalfOfItFalse x = Checks.make(1, 8, 4, 0, 0, 0, 1);
        for (int i = 0; i < 24; i++) {
            x.say(i / 8, 0, i % 2 == 0);
        }
        x.draw();
        return x;
    }

    private static void rows() {
        C.about("REFUSALS of row: -1, -4, -6, -7");
        CROWDED.refused("no shelf, and all else", -1, x -> x.row(8, 4, -1));
        CROWDED.refused("no shelf, sort, too long", -1, x -> x.row(-1, 4, 161));
        CROWDED.refused("below 0, and sort", -4, x -> x.row(BYTES, 4, -1));
        CROWDED.refused("sort, and too long", -6, x -> x.row(BYTES, 4, 161));
        CROWDED.refused("sort below 0", -6, x -> x.row(BYTES, -1, 0));
        CROWDED.refused("too long", -7, x -> x.row(BYTES, 0, 161));
        CROWDED.refused("too long, over a speaker", -7, x -> x.row(KIND, 3, 161));
        C.about("REFUSALS of set: -1, -2, -3, -5");
        CROWDED.refused("no shelf, and no element", -1, x -> x.set(8, -1, 9));
        CROWDED.refused("no shelf", -1, x -> x.set(-1, 0, 9));
        CROWDED.refused("a speaker, and no element", -2, x -> x.set(KIND, -1, 9));
        CROWDED.refused("nothing, and no element", -3, x -> x.set(EMPTY, -1, 9));
        CROWDED.refused("an element below 0", -5, x -> x.set(BYTES, -1, 9));
        CROWDED.refused("an element behind the last", -5, x -> x.set(BYTES, 3, 9));
    }

    private static void copies() {
        C.about("REFUSALS of copy: -1, -2, -3, -4, -5");
        CROWDED.refused("no shelf, and a speaker", -1, x -> x.copy(8, KIND, -1, -1, -1));
        CROWDED.refused("a speaker, and no shelf", -1, x -> x.copy(KIND, -1, -1, -1, -1));
        CROWDED.refused("nothing, and no shelf", -1, x -> x.copy(EMPTY, 8, 0, 0, 0));
        CROWDED.refused("a speaker, and nothing", -2, x -> x.copy(KIND, EMPTY, -1, -1, -1));
        CROWDED.refused("nothing, and a speaker", -2, x -> x.copy(EMPTY, KIND, -1, -1, -1));
        CROWDED.refused("a row, and a speaker", -2, x -> x.copy(BYTES, KIND, 0, 0, 0));
        CROWDED.refused("a speaker, and a row", -2, x -> x.copy(CODE, BYTES, 0, 0, 0));
        CROWDED.refused("two speakers", -2, x -> x.copy(CODE, KIND, 0, 0, 0));
        CROWDED.refused("two sorts", -2, x -> x.copy(BYTES, DAY, -1, -1, -1));
        CROWDED.refused("two sorts, though none comes", -2, x -> x.copy(DAY, LONGS, 0, 0, 0));
        CROWDED.refused("from nothing, below 0", -3, x -> x.copy(EMPTY, BYTES, -1, -1, -1));
        CROWDED.refused("to nothing, below 0", -3, x -> x.copy(BYTES, EMPTY, -1, -1, -1));
        CROWDED.refused("nothing to nothing", -3, x -> x.copy(EMPTY, EMPTY, 0, 0, 0));
        CROWDED.refused("below 0, not there", -4, x -> x.copy(BYTES, TEXT, -1, 9, -1));
        CROWDED.refused("from below 0", -5, x -> x.copy(BYTES, TEXT, -1, 0, 1));
        CROWDED.refused("to below 0", -5, x -> x.copy(BYTES, TEXT, 0, -1, 1));
        CROWDED.refused("an end of the first", -5, x -> x.copy(BYTES, TEXT, 1, 0, 3));
        CROWDED.refused("an end of the second", -5, x -> x.copy(BYTES, TEXT, 0, 1, 3));
        CROWDED.refused("none, from behind the end", -5, x -> x.copy(BYTES, TEXT, 4, 0, 0));
        CROWDED.refused("none, to behind the end", -5, x -> x.copy(BYTES, TEXT, 0, 4, 0));
        CROWDED.refused("an end beyond all ints", -5,
                x -> x.copy(BYTES, TEXT, Integer.MAX_VALUE, 0, Integer.MAX_VALUE));
        CROWDED.refused("an end beyond all ints", -5,
                x -> x.copy(BYTES, TEXT, 0, Integer.MAX_VALUE, Integer.MAX_VALUE));
    }

    private static void shelvesOfSpeakers() {
        C.about("REFUSALS of show: -1");
        CROWDED.refused("no shelf", -1, x -> x.show(8, 0));
        CROWDED.refused("no shelf, and NONE", -1, x -> x.show(-1, -1));
        CROWDED.refused("no speaker", -1, x -> x.show(BYTES, 6));
        CROWDED.refused("no speaker, and not NONE", -1, x -> x.show(KIND, -2));
        C.about("REFUSALS of says: -1, -2, -3");
        CROWDED.refused("no shelf", -1, x -> x.says(8, 0));
        CROWDED.refused("no shelf", -1, x -> x.says(-1, 0));
        CROWDED.refused("no kind, and a row", -1, x -> x.says(BYTES, 7));
        CROWDED.refused("no kind, and nothing", -1, x -> x.says(EMPTY, -1));
        CROWDED.refused("a row", -2, x -> x.says(BYTES, 0));
        CROWDED.refused("a KIND for a SLY", -2, x -> x.says(KIND, 2));
        CROWDED.refused("a KIND for a LATE", -2, x -> x.says(KIND, 3));
        CROWDED.refused("a CODE for a TOLD", -2, x -> x.says(CODE, 5));
        CROWDED.refused("nothing", -3, x -> x.says(EMPTY, 0));
    }

    private static void facts() {
        Twins full = new Twins(C, () -> Checks.make(6, 4, 2, 1));
        C.about("REFUSALS of fact: -6, -7");
        CROWDED.refused("harm above 99", -6, x -> x.fact(100));
        CROWDED.refused("harm below 0", -6, x -> x.fact(-1));
        full.refused("harm above 99, and no room", -6, x -> x.fact(100));
        full.refused("no room", -7, x -> x.fact(0));
        C.about("REFUSALS of harm: -1, -6");
        CROWDED.refused("no fact, and harm", -1, x -> x.harm(3, 100));
        CROWDED.refused("no fact, and harm", -1, x -> x.harm(-1, -1));
        CROWDED.refused("harm above 99", -6, x -> x.harm(2, 100));
        CROWDED.refused("harm below 0", -6, x -> x.harm(0, -1));
    }

    private static void speakers() {
        C.about("REFUSALS of speaker: -1, -6, -7");
        CROWDED.refused("no kind, a, no room", -1, x -> x.speaker(7, 1024));
        CROWDED.refused("no kind, no room", -1, x -> x.speaker(-1, 0));
        CROWDED.refused("a above 1023, no room", -6, x -> x.speaker(0, 1024));
        CROWDED.refused("a below 0, no room", -6, x -> x.speaker(0, -1));
        CROWDED.refused("no room", -7, x -> x.speaker(0, 0));
        BARE.refused("no kind", -1, x -> x.speaker(7, 0));
        BARE.refused("a", -6, x -> x.speaker(6, 1024));
        C.about("REFUSALS of speakerOf: -5 alone");
        CROWDED.refused("no speaker, and another what", -5, x -> x.speakerOf(6, 3));
        CROWDED.refused("no speaker", -5, x -> x.speakerOf(-1, 0));
        CROWDED.refused("another what", -5, x -> x.speakerOf(0, 3));
        CROWDED.refused("another what", -5, x -> x.speakerOf(0, -1));
    }

    private static void laws() {
        Twins quiet = new Twins(C, () -> Checks.make(2, 5, 3, 0, 1));
        C.about("REFUSALS of law: -6");
        quiet.refused("n below 2", -6, x -> x.law(1, 0));
        quiet.refused("n above 10", -6, x -> x.law(11, 0));
        quiet.refused("t below 0", -6, x -> x.law(4, -1));
        quiet.refused("t above n", -6, x -> x.law(4, 5));
        CROWDED.refused("while there are sayings", -6, x -> x.law(4, 2));
    }

    private static void saying() {
        C.about("REFUSALS of say: -1, -6, -7");
        CROWDED.refused("no speaker", -1, x -> x.say(6, 0, true));
        CROWDED.refused("no speaker", -1, x -> x.say(-1, 0, true));
        CROWDED.refused("no fact, their day full", -1, x -> x.say(1, 3, true));
        CROWDED.refused("no fact", -1, x -> x.say(1, -1, true));
        CROWDED.refused("their day is full", -6, x -> x.say(1, 0, false));
        CROWDED.refused("it can't be", -6, x -> x.say(0, 1, true));
        CROWDED.refused("it can't be", -6, x -> x.say(3, 0, false));
        ROOMLESS.refused("no speaker, and no room", -1, x -> x.say(4, 0, true));
        ROOMLESS.refused("their day is full, and no room", -6, x -> x.say(2, 0, true));
        ROOMLESS.refused("no room", -7, x -> x.say(3, 0, true));
        Twins known = new Twins(C, RefusalBoundsTest::roomlessAndNotSo);
        known.refused("it can't be, and no room", -6, x -> x.say(3, 0, true));
        C.about("REFUSALS of unsay: -6");
        Twins quiet = new Twins(C, () -> Checks.make(2, 5, 3, 0, 1));
        quiet.refused("there is none", -6, x -> x.unsay());
    }

    private static HalfOfItFalse roomlessAndNotSo() {
        HalfOfItFalse x = roomless();
        x.known(0, false);
        return x;
    }

    private static void knowing() {
        C.about("REFUSALS of known: -1, -6");
        CROWDED.refused("no fact", -1, x -> x.known(3, true));
        CROWDED.refused("no fact", -1, x -> x.known(-1, false));
        CROWDED.refused("none would be", -6, x -> x.known(0, false));
        CROWDED.refused("none would be", -6, x -> x.known(2, true));
        BARE.refused("no fact", -1, x -> x.known(0, true));
    }

    private static void texts() {
        C.about("REFUSALS of town: -1, -2, -3, -6");
        CROWDED.refused("no shelf", -1, x -> x.town(8));
        CROWDED.refused("no shelf", -1, x -> x.town(-1));
        CROWDED.refused("a speaker", -2, x -> x.town(KIND));
        CROWDED.refused("nothing", -3, x -> x.town(EMPTY));
        CROWDED.refused("a fault (the same as ahead)", -6, x -> x.town(TEXT));
        Twins late = new Twins(C, RefusalBoundsTest::withLateFault);
        late.refused("a fault behind items of each sort", -6, x -> x.town(0));
    }

    private static HalfOfItFalse withLateFault() {
        HalfOfItFalse x = Checks.make(2, 4, 2, 0, 1);
        x.draw();
        x.image();
        Checks.write(x, 0, "fact 7;man 1 1;law 9 9;says 1 1 1;known 0 0;man 1 1x");
        x.town(0);
        return x;
    }

    private static void whatMayBeSaid() {
        C.about("REFUSALS of canBe: -1");
        CROWDED.refused("no speaker", -1, x -> x.canBe(6, 0));
        CROWDED.refused("no speaker", -1, x -> x.canBe(-1, 0));
        CROWDED.refused("no world", -1, x -> x.canBe(0, 8));
        CROWDED.refused("no world", -1, x -> x.canBe(0, -1));
        C.about("REFUSALS of can: -1, -5");
        CROWDED.refused("no speaker, and another what", -1, x -> x.can(6, 0, 4));
        CROWDED.refused("no speaker", -1, x -> x.can(-1, 0, 0));
        CROWDED.refused("no fact, and another what", -1, x -> x.can(0, 3, -1));
        CROWDED.refused("no fact", -1, x -> x.can(0, -1, 0));
        CROWDED.refused("another what", -5, x -> x.can(0, 0, 4));
        CROWDED.refused("another what", -5, x -> x.can(0, 0, -1));
        CROWDED.refused("another what, though their day is full", -5, x -> x.can(1, 0, 4));
    }

    private static void whatIsSure() {
        C.about("REFUSALS of sure: -11, counted as -1");
        CROWDED.refused("no fact", -1, -11, x -> x.sure(3));
        CROWDED.refused("no fact", -1, -11, x -> x.sure(-1));
        C.about("REFUSALS of shown: -1, -5");
        CROWDED.refused("no fact", -1, x -> x.shown(3));
        CROWDED.refused("no fact", -1, x -> x.shown(-1));
        CROWDED.refused("it isn't sure", -5, x -> x.shown(1));
        C.about("REFUSALS of proof: -1, -5, -7");
        CROWDED.refused("no fact", -1, x -> x.proof(3));
        CROWDED.refused("it isn't sure", -5, x -> x.proof(1));
        ROOMLESS.refused("no fact, and too many", -1, x -> x.proof(1));
        ROOMLESS.refused("no fact, and too many", -1, x -> x.proof(-1));
        ROOMLESS.refused("it isn't sure, and too many", -5, x -> x.proof(0));
        Twins known = new Twins(C, RefusalBoundsTest::roomlessAndNotSo);
        known.refused("too many", -7, x -> x.proof(0));
    }

    private static void questions() {
        C.about("REFUSALS of worst: -1, -6");
        CROWDED.refused("no speaker", -1, x -> x.worst(6, 0));
        CROWDED.refused("no speaker", -1, x -> x.worst(-1, 0));
        CROWDED.refused("no fact, and their day is full", -1, x -> x.worst(1, 3));
        CROWDED.refused("no fact", -1, x -> x.worst(0, -1));
        CROWDED.refused("their day is full", -6, x -> x.worst(1, 0));
        C.about("REFUSALS of next: -5");
        BARE.refused("there is no question", -5, x -> x.next());
        C.about("REFUSALS of knows: -1, -6");
        CROWDED.refused("no fact, and k", -1, x -> x.knows(3, 3));
        CROWDED.refused("no fact, and k", -1, x -> x.knows(-1, -1));
        CROWDED.refused("k above 2", -6, x -> x.knows(0, 3));
        CROWDED.refused("k below 0", -6, x -> x.knows(1, -1));
        C.about("REFUSALS of tree: -11, counted as -1");
        CROWDED.refused("no fact", -1, -11, x -> x.tree(3));
        CROWDED.refused("no fact", -1, -11, x -> x.tree(-1));
    }

    private static void rowsAndMessages() {
        C.about("REFUSALS of rows: -1, -6");
        CROWDED.refused("no speaker, and m", -1, x -> x.rows(6, 5));
        CROWDED.refused("no speaker, and m", -1, x -> x.rows(-1, -1));
        CROWDED.refused("m above N", -6, x -> x.rows(0, 5));
        CROWDED.refused("m below 0", -6, x -> x.rows(0, -1));
        C.about("REFUSALS of tells: -11; -16, counted as -1, -6");
        CROWDED.refused("no speaker, and x", -1, -11, x -> x.tells(6, 0));
        CROWDED.refused("no speaker, and x", -1, -11, x -> x.tells(-1, 1025));
        CROWDED.refused("x below 1", -6, -16, x -> x.tells(0, 0));
        CROWDED.refused("x above 1024", -6, -16, x -> x.tells(0, 1025));
        C.about("REFUSALS of trust: -1000001; -1000006, counted as -1, -6");
        CROWDED.refused("no speaker", -1, -1000001, x -> x.trust(6));
        CROWDED.refused("no speaker", -1, -1000001, x -> x.trust(-1));
        CROWDED.refused("their day is full", -6, -1000006, x -> x.trust(1));
        C.about("REFUSALS of witness: -5");
        BARE.refused("no speakers", -5, x -> x.witness());
    }

    private static void errands() {
        C.about("REFUSALS of errands: -1, -2, -3, -6");
        CROWDED.refused("no shelf, and a", -1, x -> x.errands(8, 11));
        CROWDED.refused("no shelf, and a", -1, x -> x.errands(-1, -1));
        CROWDED.refused("a speaker, and a", -2, x -> x.errands(KIND, 11));
        CROWDED.refused("nothing, and a", -3, x -> x.errands(EMPTY, 11));
        CROWDED.refused("more than 10 elements", -6, x -> x.errands(SHORTS, 0));
        CROWDED.refused("a above 10", -6, x -> x.errands(BYTES, 11));
        CROWDED.refused("a below 0", -6, x -> x.errands(BYTES, -1));
        C.about("REFUSALS of placed: -1, -2, -3, -6");
        CROWDED.refused("no shelf, and a", -1, x -> x.placed(8, 11));
        CROWDED.refused("no shelf, and a", -1, x -> x.placed(-1, -1));
        CROWDED.refused("a speaker, and a", -2, x -> x.placed(KIND, 11));
        CROWDED.refused("nothing, and a", -3, x -> x.placed(EMPTY, 11));
        CROWDED.refused("more than 10 elements", -6, x -> x.placed(SHORTS, 0));
        CROWDED.refused("a above 10", -6, x -> x.placed(BYTES, 11));
        CROWDED.refused("a below 0", -6, x -> x.placed(BYTES, -1));
    }

    private static void days() {
        C.about("REFUSALS of judge: -1, -2, -3, -4, -5, -6");
        CROWDED.refused("no shelf, and n", -1, x -> x.judge(8, -1));
        CROWDED.refused("no shelf, and n", -1, x -> x.judge(-1, 25));
        CROWDED.refused("a speaker, and n", -2, x -> x.judge(KIND, -1));
        CROWDED.refused("nothing, and n", -3, x -> x.judge(EMPTY, -1));
        CROWDED.refused("n below 0", -4, x -> x.judge(DAY, -1));
        CROWDED.refused("fewer elements", -5, x -> x.judge(DAY, 4));
        CROWDED.refused("fewer elements, and n above 24", -5, x -> x.judge(DAY, 25));
        CROWDED.refused("n above 24", -6, x -> x.judge(LONGS, 25));
        CROWDED.unchanged("a day that can be", -1, x -> x.judge(DAY, 0));
        CROWDED.unchanged("a day that can't be: 1's is full", 0, x -> x.judge(DAY, 3));
    }

    private static void inTruth() {
        C.about("REFUSALS of ask: -1, -6, -7");
        CROWDED.refused("no speaker", -1, x -> x.ask(6, 0));
        CROWDED.refused("no speaker", -1, x -> x.ask(-1, 0));
        CROWDED.refused("no fact, and their day is full", -1, x -> x.ask(1, 3));
        CROWDED.refused("no fact", -1, x -> x.ask(0, -1));
        CROWDED.refused("their day is full", -6, x -> x.ask(1, 0));
        Twins undrawn = new Twins(C, () -> Checks.make(2, 4, 2, 0, 1));
        undrawn.refused("no speaker, and nothing is drawn", -1, x -> x.ask(2, 0));
        undrawn.refused("no fact, and nothing is drawn", -1, x -> x.ask(0, 2));
        undrawn.refused("nothing is drawn", -6, x -> x.ask(0, 0));
        Twins other = new Twins(C, RefusalBoundsTest::knownOtherThanDrawn);
        other.refused("what a KIND would say can't be", -6, x -> x.ask(0, 0));
        other.refused("what a PAIRS would say can't be", -6, x -> x.ask(1, 1));
        ROOMLESS.refused("no speaker, and no room", -1, x -> x.ask(4, 0));
        ROOMLESS.refused("their day is full, and no room", -6, x -> x.ask(0, 0));
        ROOMLESS.refused("no room", -7, x -> x.ask(3, 0));
        Twins both = new Twins(C, RefusalBoundsTest::roomlessAndOther);
        both.refused("it can't be, and no room", -6, x -> x.ask(3, 0));
        C.about("REFUSALS of truly: -1, -6");
        CROWDED.refused("no world", -1, x -> x.truly(8));
        CROWDED.refused("no world", -1, x -> x.truly(-1));
        undrawn.refused("no world, and nothing is drawn", -1, x -> x.truly(4));
        undrawn.refused("nothing is drawn", -6, x -> x.truly(3));
    }

    /** Fact 0 is other than drawn, fact 1 as drawn; a pair is begun by what is true as drawn. */
    private static HalfOfItFalse knownOtherThanDrawn() {
        HalfOfItFalse x = Checks.make(2, 4, 2, 1, 6);
        x.draw();
        boolean first = x.truly(1) == 1 || x.truly(3) == 1;
        boolean second = x.truly(2) == 1 || x.truly(3) == 1;
        x.known(0, !first);
        x.known(1, second);
        x.say(1, 0, first);
        return x;
    }

    private static HalfOfItFalse roomlessAndOther() {
        HalfOfItFalse x = roomless();
        x.known(0, x.truly(1) != 1);
        return x;
    }

    private static void images() {
        C.about("REFUSALS of restore: -6");
        Twins unimaged = new Twins(C, () -> Checks.make(2, 4, 2, 0, 1));
        unimaged.refused("there is none", -6, x -> x.restore());
    }

    private static void neverRefused() {
        C.about("calls that refuse nothing, and change nothing");
        CROWDED.unchanged("element", 0, x -> x.element(8, 0));
        CROWDED.unchanged("element", 0, x -> x.element(-1, -1));
        CROWDED.unchanged("element", 0, x -> x.element(EMPTY, 0));
        CROWDED.unchanged("element", 0, x -> x.element(KIND, 0));
        CROWDED.unchanged("element", 0, x -> x.element(BYTES, 3));
        CROWDED.unchanged("element", 0, x -> x.element(BYTES, -1));
        CROWDED.unchanged("holds", -1, x -> x.holds(8));
        CROWDED.unchanged("holds", -1, x -> x.holds(-1));
        CROWDED.unchanged("sayingOf", -1, x -> x.sayingOf(7));
        CROWDED.unchanged("sayingOf", -1, x -> x.sayingOf(-1));
        CROWDED.unchanged("fault", 3, x -> x.fault());
        CROWDED.unchanged("trace", -1, x -> x.trace(-1));
        CROWDED.unchanged("trace", -1, x -> x.trace(20));
        CROWDED.unchanged("status", -1, x -> x.status(-1));
        CROWDED.unchanged("status", -1, x -> x.status(9));
        CROWDED.unchanged("status", -1, x -> x.status(10));
        CROWDED.unchanged("status", -1, x -> x.status(18));
        CROWDED.unchanged("worlds", 10, x -> x.worlds());
        CROWDED.unchanged("many", 2, x -> x.many());
        CROWDED.unchanged("sures", 5, x -> x.sures());
        CROWDED.unchanged("a fact that isn't sure", -1, x -> x.sure(1));
        CROWDED.unchanged("tree", 1, x -> x.tree(1));
        CROWDED.unchanged("knows", 1, x -> x.knows(1, 2));
        CROWDED.unchanged("a day that is full", 0, x -> x.can(1, 0, 3));
        CROWDED.unchanged("what none tells", -1, x -> x.tells(1, 2));
        CROWDED.unchanged("worst", 1, x -> x.worst(0, 0));
        CROWDED.unchanged("next", 0, x -> x.next());
        CROWDED.unchanged("proof", 1, x -> x.proof(0));
        CROWDED.unchanged("trust", 2, x -> x.trust(3));
        CROWDED.unchanged("seed to what it is", -1, x -> x.seed(x.status(7)) == x.status(7) ? -1 : 0);
        BARE.unchanged("act, no speaker", 0, x -> x.act(0, 0, 1));
        BARE.unchanged("act, no act", 0, x -> x.act(0, 3, 1));
    }

    private static void counts() {
        C.about("REFUSALS are counted, each by its number");
        HalfOfItFalse x = crowded();
        int wrong = x.status(16);
        C.due("the fault of the text", 1, wrong);
        for (int i = 1; i <= 3; i++) {
            x.harm(3, 0);
            x.copy(BYTES, DAY, 0, 0, 0);
            x.town(EMPTY);
            x.judge(DAY, -1);
            x.shown(1);
            x.knows(0, 3);
            x.speaker(0, 0);
            x.trust(1);
            x.sure(3);
            int[] want = {2 * i, i, i, i, i, wrong + 2 * i, i};
            for (int r = 1; r <= 7; r++) {
                C.due("refusals -" + r, want[r - 1], x.status(10 + r));
            }
        }
    }
}
