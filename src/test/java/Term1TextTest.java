/** Term 1, A TOWN read from a ROW of letters: each sentence that names a bound, and beyond it. */
public final class Term1TextTest {
    private static final Checks C = new Checks();

    public static void main(String[] args) {
        items();
        facts();
        men();
        laws();
        says();
        known();
        blanks();
        digits();
        longNumbers();
        overWhatThereIs();
        orNothing();
        noRoomForFacts();
        noRoomForMen();
        noRoomForSayings();
        aFullDay();
        lawWhileThereAreSayings();
        saysThatCannotBe();
        knownByWhichNoWorldWouldBe();
        endsTooEarly();
        firstPlace();
        firstDigit();
        letters();
        C.end();
    }

    private static void good(HalfOfItFalse x, String text, int items) {
        C.good(x, text, items);
    }

    private static void bad(HalfOfItFalse x, String text, int fault) {
        C.bad(x, text, fault);
    }

    private static void bad(String text, int fault) {
        C.bad(new HalfOfItFalse(), text, fault);
    }

    /** One fact, two speakers of kinds 0 and 1; two sayings a day, one of them true. */
    private static HalfOfItFalse small() {
        return Checks.make(1, 2, 1, 0, 1);
    }

    private static String times(int n, String item) {
        StringBuilder text = new StringBuilder(item);
        for (int i = 1; i < n; i++) {
            text.append(';').append(item);
        }
        return text.toString();
    }

    private static void items() {
        C.about("Term 1: ITEM, then any number of times ; and ITEM");
        bad("", 0);
        good(new HalfOfItFalse(), "law 2 0", 1);
        good(new HalfOfItFalse(), "law 2 0;law 3 0", 2);
        good(new HalfOfItFalse(), times(20, "law 2 0"), 20);
        String most = times(19, "law 2 0") + ";law 10 0";
        C.due("a row can hold no more", 160, most.length());
        good(new HalfOfItFalse(), most, 20);
        bad(times(20, "law 2 0") + ";", 160);
        bad("law 2 0;", 8);
        bad(";law 2 0", 0);
        bad("law 2 0;;law 2 0", 8);
        bad("law 2 0law 2 0", 7);
        bad("law 2 0:law 2 0", 7);
    }

    private static void facts() {
        C.about("Term 1: fact H (a FACT more of HARM H)");
        HalfOfItFalse x = new HalfOfItFalse();
        good(x, "fact 0", 1);
        good(x, "fact 99", 1);
        bad(x, "fact 100", 5);
        C.due("facts", 2, x.status(0));
        C.due("harm", 0, x.harm(0, 5));
        C.due("harm", 99, x.harm(1, 5));
        C.due("worlds", 15, x.worlds());
    }

    private static void men() {
        C.about("Term 1: man K A (a SPEAKER more)");
        HalfOfItFalse x = new HalfOfItFalse();
        good(x, "man 0 0", 1);
        good(x, "man 6 1023", 1);
        bad(x, "man 7 0", 4);
        bad(x, "man 6 1024", 6);
        C.due("speakers", 2, x.status(1));
        C.due("kind", 0, x.speakerOf(0, 0));
        C.due("a", 0, x.speakerOf(0, 1));
        C.due("kind", 6, x.speakerOf(1, 0));
        C.due("a", 1023, x.speakerOf(1, 1));
    }

    private static void laws() {
        C.about("Term 1: law N T (2 to 10, 0 to N)");
        HalfOfItFalse x = new HalfOfItFalse();
        for (int n = 2; n <= 10; n++) {
            int at = n < 10 ? 6 : 7;
            good(x, "law " + n + " " + n, 1);
            bad(x, "law " + n + " " + (n + 1), at);
            C.due("N", n, x.status(4));
            C.due("T", n, x.status(5));
            good(x, "law " + n + " 0", 1);
            C.due("T", 0, x.status(5));
        }
        for (int n : new int[] {0, 1, 11, 100, 9999}) {
            bad("law " + n + " 0", 4);
        }
        bad("law 2 -1", 6);
    }

    private static void says() {
        C.about("Term 1: says S F V (V 0 or 1)");
        good(small(), "says 0 0 0", 1);
        good(small(), "says 1 0 1", 1);
        bad(small(), "says 2 0 1", 5);
        bad(small(), "says 0 1 1", 7);
        bad(small(), "says 0 0 2", 9);
        bad(small(), "says -1 0 1", 5);
        HalfOfItFalse x = Checks.make(6, 2, 1, 0, 0, 0, 0, 0, 0);
        good(x, "says 5 5 1", 1);
        C.due("sayingOf", 551, x.sayingOf(0));
        bad(x, "says 6 5 1", 5);
        bad(x, "says 5 6 1", 7);
        C.about("Term 1: says S F V, no SPEAKER, no FACT");
        bad(Checks.make(1, 2, 1), "says 0 0 1", 5);
        bad(Checks.make(0, 2, 1, 0), "says 0 0 1", 7);
    }

    private static void known() {
        C.about("Term 1: known F V (LEFT are those alone in which F is so, V 1, or not, V 0)");
        HalfOfItFalse x = Checks.make(6, 2, 1);
        good(x, "known 5 1", 1);
        C.due("left", 32, x.status(3));
        C.due("so", Checks.worldsWith(6, 5), x.worlds());
        good(x, "known 0 0", 1);
        C.due("left", 16, x.status(3));
        C.due("not so", Checks.worldsWith(6, 5) & ~Checks.worldsWith(6, 0), x.worlds());
        bad(x, "known 6 1", 6);
        bad(x, "known 1 2", 8);
        bad("known 0 1", 6);
    }

    private static void blanks() {
        C.about("Term 1: one blank between words and NUMBERS");
        String[] words = {"fact", " ", "5", ";", "man", " ", "1", " ", "5", ";", "law", " ", "3", " ",
            "1", ";", "says", " ", "0", " ", "0", " ", "1", ";", "known", " ", "0", " ", "1"};
        good(new HalfOfItFalse(), String.join("", words), 5);
        int at = 0;
        for (int i = 0; i < words.length; i++) {
            if (words[i].equals(" ")) {
                bad(without(words, i, "  "), at + 1);
                bad(without(words, i, "\t"), at);
                bad(without(words, i, ";"), at);
                if (!Character.isDigit(words[i - 1].charAt(0))) {
                    bad(without(words, i, ""), at);
                }
            }
            at += words[i].length();
        }
        bad(" fact 5", 0);
        bad("fact 5 ", 6);
        bad("fact 5 ;fact 5", 6);
        bad("fact 5; fact 5", 7);
    }

    /** All of the words, but for one another in its stead. */
    private static String without(String[] words, int place, String other) {
        String[] some = words.clone();
        some[place] = other;
        return String.join("", some);
    }

    private static void digits() {
        C.about("Term 1: NUMBERS (1 to 4 digits)");
        good(new HalfOfItFalse(), "fact 7", 1);
        good(new HalfOfItFalse(), "fact 07", 1);
        good(new HalfOfItFalse(), "fact 007", 1);
        HalfOfItFalse x = new HalfOfItFalse();
        good(x, "fact 0007;man 0001 1023;law 0010 0009;says 0000 0000 0001;known 0000 0001", 5);
        C.due("harm", 7, x.harm(0, 0));
        C.due("kind", 1, x.speakerOf(0, 0));
        C.due("a", 1023, x.speakerOf(0, 1));
        C.due("N", 10, x.status(4));
        C.due("T", 9, x.status(5));
        C.due("sayingOf", 1, x.sayingOf(0));
        bad("fact ", 5);
        bad("fact ;", 5);
        bad("man  1", 4);
        bad("man 1 ", 6);
        bad("man 1 x", 6);
    }

    private static void longNumbers() {
        C.about("Term 1: NUMBERS (1 to 4 digits): behind four no digit can stand");
        bad("fact 00007", 9);
        bad("man 00001 5", 8);
        bad("man 1 00005", 10);
        bad("law 4 00002", 10);
        bad(small(), "says 00000 0 1", 9);
        bad(small(), "says 0 00000 1", 11);
        bad(small(), "says 0 0 00001", 13);
        bad(small(), "known 00000 1", 10);
        bad(small(), "known 0 00001", 12);
    }

    private static void overWhatThereIs() {
        C.about("Term 1: all is told over what there is");
        HalfOfItFalse x = small();
        x.say(1, 0, true);
        good(x, "fact 9;man 2 3;says 1 1 0;known 1 1", 4);
        C.due("facts", 2, x.status(0));
        C.due("harm as it was", 1, x.harm(0, 1));
        C.due("harm", 9, x.harm(1, 9));
        C.due("speakers", 3, x.status(1));
        C.due("sayings", 2, x.status(2));
        C.due("sayingOf", 101, x.sayingOf(0));
        C.due("sayingOf", 110, x.sayingOf(1));
        C.due("left", 2, x.status(3));
        C.due("worlds", 1 << 3, x.worlds());
    }

    private static void orNothing() {
        C.about("Term 1: all is told, or nothing");
        String[] firsts = {"fact 9", "man 2 3", "law 9 8", "says 1 0 1", "known 0 0"};
        for (String first : firsts) {
            HalfOfItFalse x = small();
            bad(x, first + ";!", first.length() + 1);
            int[] status = {1, 2, 0, 2, 2, 1, 0, 1};
            for (int what = 0; what < status.length; what++) {
                C.due("status " + what + " after " + first, status[what], x.status(what));
            }
            C.due("worlds", 3, x.worlds());
            C.due("said", 0, x.speakerOf(1, 2));
            C.due("none said", -1, x.sayingOf(0));
            good(x, first, 1);
        }
    }

    private static void noRoomForFacts() {
        C.about("Term 1: what there is no room for can't stand: its word (fact)");
        good(new HalfOfItFalse(), times(6, "fact 1"), 6);
        bad(times(7, "fact 1"), 42);
        bad(Checks.make(5, 4, 2), "fact 1;fact 1", 7);
        bad(Checks.make(6, 4, 2), "fact 1", 0);
        bad(Checks.make(6, 4, 2), "fact 100", 0);
    }

    private static void noRoomForMen() {
        C.about("Term 1: what there is no room for can't stand: its word (man)");
        good(new HalfOfItFalse(), times(6, "man 0 0"), 6);
        bad(times(7, "man 0 0"), 48);
        bad(Checks.make(0, 4, 2, 0, 0, 0, 0, 0), "man 0 0;man 0 0", 8);
        bad(Checks.make(0, 4, 2, 0, 0, 0, 0, 0, 0), "man 0 0", 0);
        bad(Checks.make(0, 4, 2, 0, 0, 0, 0, 0, 0), "man 7 0", 0);
    }

    /** So many sayings, eight of each of the first ones; the day of the last isn't full. */
    private static HalfOfItFalse withSayings(int sayings) {
        HalfOfItFalse x = Checks.make(1, 8, 4, 0, 0, 0, 0);
        for (int i = 0; i < sayings; i++) {
            x.say(i / 8, 0, i % 2 == 0);
        }
        return x;
    }

    private static void noRoomForSayings() {
        C.about("Term 1: what there is no room for can't stand: its word (says)");
        good(withSayings(23), "says 3 0 1", 1);
        bad(withSayings(23), "says 3 0 1;says 3 0 0", 11);
        bad(withSayings(24), "says 3 0 1", 0);
        C.about("Term 1: no room (its word) is ahead of a day that is full, and of no SPEAKER");
        bad(withSayings(24), "says 0 0 1", 0);
        bad(withSayings(24), "says 9 0 1", 0);
    }

    private static void aFullDay() {
        C.about("Term 1: a day that is full can't stand: the NUMBER of the SPEAKER");
        good(small(), "says 0 0 1;says 0 0 0", 2);
        bad(small(), "says 0 0 1;says 0 0 0;says 0 0 1", 27);
        bad(small(), "says 0 0 1;says 0 0 0;says 0000 9 9", 27);
        HalfOfItFalse x = small();
        x.say(1, 0, true);
        good(x, "says 1 0 0", 1);
        bad(x, "says 1 0 0", 5);
        bad(x, "says 0 0 1;says 1 0 0", 16);
        good(x, "says 0 0 1", 1);
    }

    private static void lawWhileThereAreSayings() {
        C.about("Term 1: law can't stand while there are SAYINGS (its word)");
        HalfOfItFalse x = small();
        good(x, "law 5 3", 1);
        bad(x, "says 0 0 1;law 5 3", 11);
        x.say(0, 0, true);
        bad(x, "law 5 3", 0);
        bad(x, "fact 1;law 5 3", 7);
        bad(x, "law 1 3", 0);
        x.unsay();
        good(x, "law 5 4", 1);
        x.say(0, 0, true);
        x.sunset();
        good(x, "law 5 5", 1);
    }

    private static void saysThatCannotBe() {
        C.about("Term 1: of says that CAN'T be, V can't stand");
        good(small(), "known 0 1;says 1 0 1", 2);
        bad(small(), "known 0 1;says 1 0 0", 19);
        bad(small(), "known 0 1;says 1 0 0000", 19);
        good(small(), "says 1 0 1;says 1 0 0", 2);
        bad(small(), "says 1 0 1;says 1 0 1", 20);
        bad(small(), "says 1 0 1;says 0 0 1;says 0 0 1", 31);
    }

    private static void knownByWhichNoWorldWouldBe() {
        C.about("Term 1: of known by which no WORLD would be, V can't stand");
        good(small(), "known 0 1;known 0 1", 2);
        bad(small(), "known 0 1;known 0 0", 18);
        bad(small(), "known 0 0;known 0 0001", 18);
        good(small(), "says 1 0 1;known 0 1", 2);
        bad(small(), "says 1 0 1;known 0 0", 19);
        good(Checks.make(2, 2, 1), "known 0 1;known 1 0", 2);
    }

    private static void endsTooEarly() {
        C.about("Term 1: the FAULT is the number of elements, if it ends too early");
        String text = "fact 5;man 1 5;law 3 1;says 0 0 1;known 0 1";
        for (int end = 0; end < text.length(); end++) {
            String begun = text.substring(0, end);
            if (end == 6 || end == 14 || end == 22 || end == 33) {
                good(new HalfOfItFalse(), begun, begun.split(";").length);
            } else {
                bad(begun, end);
            }
        }
        good(new HalfOfItFalse(), text, 5);
        C.about("Term 1: the FAULT, if it ends within a word that can't stand when it is there");
        bad(Checks.make(6, 4, 2), "fac", 3);
        bad(Checks.make(1, 4, 2, 0, 0, 0, 0, 0, 0), "ma", 2);
        bad(withSayings(24), "say", 3);
        bad(withSayings(1), "la", 2);
    }

    private static void firstPlace() {
        C.about("Term 1: the FAULT is the first place at which an element can't stand");
        String[] texts = {"fact 5", "man 1 5", "law 3 1", "says 0 0 1", "known 0 1"};
        for (String text : texts) {
            for (int i = 0; i < text.length(); i++) {
                if (!Character.isDigit(text.charAt(i))) {
                    bad(small(), text.substring(0, i) + "!" + text.substring(i + 1), i);
                    bad(small(), text.substring(0, i) + "x" + text.substring(i + 1), i);
                }
                if (Character.isLetter(text.charAt(i))) {
                    bad(small(), text.substring(0, i) + "1", i);
                    bad(small(), text.substring(0, i) + " 1 1 1", i);
                }
                bad(small(), text.substring(0, i) + "!", i);
            }
            bad(small(), text + "!", text.length());
            bad(small(), "!" + text, 0);
            bad(small(), text + ";fact 7!!", text.length() + 7);
        }
        C.about("Term 1: of two that can't stand the first is the FAULT");
        bad(small(), "man 9 9999", 4);
        bad(small(), "law 1 9", 4);
        bad(small(), "says 2 1 2", 5);
        bad(small(), "says 0 1 2", 7);
        bad(small(), "known 1 2", 6);
        bad(small(), "fact 100;fact 101", 5);
    }

    private static void firstDigit() {
        C.about("Term 1: of a NUMBER that may not be the FAULT is the place of its first digit");
        bad("fact 100", 5);
        bad("fact 0100", 5);
        bad("fact 9999", 5);
        bad("man 0007 0", 4);
        bad("man 1 1024", 6);
        bad("man 0001 9999", 9);
        bad("law 0011 2", 4);
        bad("law 0002 0003", 9);
        bad(small(), "says 0002 0 1", 5);
        bad(small(), "says 0000 0001 1", 10);
        bad(small(), "says 0000 0000 0002", 15);
        bad(small(), "known 0001 0", 6);
        bad(small(), "known 0000 0010", 11);
    }

    private static void letters() {
        C.about("Term 1: a ROW of letters, by its elements as ints");
        String text = "fact 5";
        for (int sort = 0; sort <= 3; sort++) {
            HalfOfItFalse x = new HalfOfItFalse();
            x.row(0, sort, 6);
            for (int i = 0; i < 6; i++) {
                x.set(0, i, text.charAt(i));
            }
            C.due("town of sort " + sort, 1, x.town(0));
            x.set(0, 3, 't' + 256);
            C.due("256 more of sort " + sort, sort == 0 ? 1 : -6, x.town(0));
            C.due("fault", sort == 0 ? -1 : 3, x.fault());
            x.set(0, 3, 't' + (1L << 32));
            C.due("2 to the 32 more of sort " + sort, 1, x.town(0));
            x.set(0, 3, 't' - 256);
            C.due("256 less of sort " + sort, sort == 0 ? 1 : -6, x.town(0));
            x.set(0, 3, -1);
            C.due("-1", -6, x.town(0));
            C.due("fault", 3, x.fault());
        }
    }
}
