/** Towns read from texts: what they tell, and the first place at which they can't go on. */
public final class TextTest {
    private static final Checks C = new Checks();

    public static void main(String[] args) {
        goodTexts();
        wordFaults();
        numberFaults();
        standingFaults();
        wordsThatCannotStand();
        allOrNothing();
        refusals();
        C.end();
    }

    private static void good(HalfOfItFalse x, String text, int items) {
        C.good(x, text, items);
    }

    private static void bad(HalfOfItFalse x, String text, int fault) {
        C.bad(x, text, fault);
    }

    private static void bad(String text, int fault) {
        bad(new HalfOfItFalse(), text, fault);
    }

    private static void goodTexts() {
        C.about("18 good texts");
        HalfOfItFalse x = new HalfOfItFalse();
        good(x, "fact 5", 1);
        C.due("harm", 5, x.harm(0, 5));
        good(x, "fact 0099;fact 00;man 6 1023;man 0001 0;law 10 0003;says 1 1 1;known 2 0", 7);
        C.due("harm", 99, x.harm(1, 99));
        C.due("kind", 6, x.speakerOf(0, 0));
        C.due("a", 1023, x.speakerOf(0, 1));
        C.due("kind", 1, x.speakerOf(1, 0));
        C.due("n", 10, x.status(4));
        C.due("t", 3, x.status(5));
        C.due("sayingOf", 111, x.sayingOf(0));
        C.due("left", 4, x.status(3));
        C.due("worlds", (1 << 2) + (1 << 3), x.worlds());
        good(x, "says 0000 0002 0000", 1);
        HalfOfItFalse y = new HalfOfItFalse();
        y.row(3, 3, 6);
        String text = "fact 7";
        for (int i = 0; i < 6; i++) {
            y.set(3, i, text.charAt(i) + (1L << 32));
        }
        C.due("of longs the lowest 32 bits", 1, y.town(3));
        C.due("harm", 7, y.harm(0, 7));
    }

    private static void wordFaults() {
        C.about("19 faults of words");
        bad("", 0);
        bad(";", 0);
        bad(" fact 5", 0);
        bad("Fact 5", 0);
        bad("fac", 3);
        bad("fact", 4);
        bad("fact ", 5);
        bad("fact  5", 5);
        bad("fact5", 4);
        bad("fcat 5", 1);
        bad("fact 5;", 7);
        bad("fact 5 ", 6);
        bad("fact 5 ;fact 6", 6);
        bad("fact 5; fact 6", 7);
        bad("fact 5;;fact 6", 7);
        bad("fact 5,fact 6", 6);
        bad("fact 5;man 1", 12);
        bad("fact 5;man 1 ", 13);
        bad("fact 5;man 1;", 12);
        bad("fact 5;man 1 0 0", 14);
        bad("fact 5;fact 6;x", 14);
        bad("fact 5;known 0 1;known 0", 24);
        HalfOfItFalse x = new HalfOfItFalse();
        x.row(0, 0, 1);
        x.set(0, 0, -1);
        C.due("town", -6, x.town(0));
        C.due("fault", 0, x.fault());
    }

    private static void numberFaults() {
        C.about("19 faults of numbers");
        bad("fact x", 5);
        bad("fact -1", 5);
        bad("fact 100", 5);
        bad("fact 100x", 5);
        bad("fact 99x", 7);
        bad("fact 9999", 5);
        bad("fact 00099", 9);
        bad("fact 99999", 5);
        bad("fact 00000", 9);
        bad("man 7 0", 4);
        bad("man 6 1024", 6);
        bad("man 6 x", 6);
        bad("man 06 01023", 11);
        bad("man 06 00123", 11);
        bad("law 1 1", 4);
        bad("law 11 1", 4);
        bad("law 10 11", 7);
        bad("law 2 3", 6);
        bad("says 0 0 1", 5);
        bad("fact 1;says 0 0 1", 12);
        bad("man 1 0;says 0 0 1", 15);
        bad("known 0 1", 6);
        bad("fact 1;known 1 1", 13);
        bad("fact 1;known 0 2", 15);
        bad("fact 1;man 1 0;says 0 0 2", 24);
        bad("fact 1;man 1 0;says 1 0 1", 20);
        bad("fact 1;man 1 0;says 0 1 1", 22);
    }

    private static void standingFaults() {
        C.about("19 faults as things stand");
        HalfOfItFalse x = Checks.make(6, 4, 2, 0, 0, 0, 0, 0, 1);
        bad(x, "fact 5", 0);
        bad(x, "man 0 0", 0);
        bad(x, "law 4 2;fact 5", 8);
        bad(x, "law 4 2;man 1 1", 8);
        good(x, "law 10 5", 1);
        bad(x, "says 5 0 1;law 4 2", 11);
        good(x, "says 5 0 1", 1);
        bad(x, "law 4 2", 0);
        bad(x, "says 5 0 0", 9);
        bad(x, "says 5 0 1;says 5 0 0", 20);
        bad(x, "known 0 0", 8);
        good(x, "known 0 1", 1);
        bad(x, "known 1 1;known 1 0", 18);
        StringBuilder many = new StringBuilder();
        for (int i = 0; i < 10; i++) {
            many.append(i > 0 ? ";" : "").append("says 4 0 ").append(i % 2);
        }
        good(x, many.toString(), 10);
        bad(x, "says 4 0 0", 5);
        bad(x, "says 3 0 0;says 0004 0 0", 16);
        for (int i = 0; i < 13; i++) {
            x.say(i / 10, 1, i % 2 == 0);
        }
        C.due("sayings", 24, x.status(2));
        bad(x, "says 5 0 1", 0);
        bad(x, "says 4 0 1", 0);
        x.unsay();
        bad(x, "says 1 1 1;says 4 0 1", 11);
        good(x, "says 1 1 1", 1);
        HalfOfItFalse y = new HalfOfItFalse();
        bad(y, "fact 1;fact 1;fact 1;fact 1;fact 1;fact 1;fact 1", 42);
        bad(y, "man 1 1;man 1 1;man 1 1;man 1 1;man 1 1;man 1 1;man 1 1", 48);
        HalfOfItFalse z = Checks.make(1, 2, 1, 0);
        bad(z, "says 0 0 1;says 0 0 0;says 0 0 1", 27);
    }

    /** A town in which there is no room for anything more, and so no law either. */
    private static HalfOfItFalse fullTown() {
        HalfOfItFalse x = Checks.make(6, 10, 5, 0, 0, 0, 0, 0, 0);
        for (int i = 0; i < 24; i++) {
            x.say(i / 8, 0, i % 2 == 0);
        }
        C.due("sayings", 24, x.status(2));
        return x;
    }

    private static void wordsThatCannotStand() {
        C.about("19 words that can't stand, and what is no such word yet");
        for (String word : new String[] {"fact", "man", "law", "says"}) {
            wordThatCannotStand("", word);
            wordThatCannotStand("known 0 1;", word);
            wordThatCannotStand("known 5 0;known 5 0;", word);
        }
        HalfOfItFalse y = Checks.make(5, 4, 2, 0, 0, 0, 0, 0);
        bad(y, "fact 1;fac", 10);
        bad(y, "fact 1;fact", 7);
        bad(y, "man 0 0;m", 9);
        bad(y, "man 0 0;man", 8);
        bad(y, "says 0 0 1;l", 12);
        bad(y, "says 0 0 1;la 4 2", 13);
        bad(y, "says 0 0 1;law", 11);
        bad(y, "la", 2);
        bad(y, "law", 3);
    }

    /** Its letters may begin a text as long as there are more to come. */
    private static void wordThatCannotStand(String ahead, String word) {
        int start = ahead.length();
        for (int i = 0; i < word.length(); i++) {
            String begun = ahead + word.substring(0, i);
            bad(fullTown(), begun, start + i);
            bad(fullTown(), begun + "x", start + i);
            bad(fullTown(), begun + " 4 2 1", start + i);
            bad(fullTown(), begun + ";" + word, start + i);
        }
        for (String behind : new String[] {"", " ", " 4 2 1", " x", ";" + word, "4"}) {
            bad(fullTown(), ahead + word + behind, start);
        }
    }

    private static void allOrNothing() {
        C.about("18 all or nothing");
        HalfOfItFalse x = Checks.make(2, 4, 2, 1, 0);
        x.known(0, true);
        bad(x, "fact 5;man 1 1;law 2 2;says 0 1 1;known 1 1;known 2 0;!", 54);
        int[] status = {2, 2, 0, 2, 4, 2, 0, 1};
        for (int i = 0; i < status.length; i++) {
            C.due("status " + i, status[i], x.status(i));
        }
        C.due("said", 0, x.speakerOf(0, 2));
        C.due("worlds", 10, x.worlds());
    }

    private static void refusals() {
        C.about("18, 19 refusals");
        HalfOfItFalse x = Checks.make(0, 4, 2, 1);
        C.due("town", -1, x.town(8));
        C.due("town", -1, x.town(-1));
        C.due("town", -3, x.town(1));
        x.show(1, 0);
        C.due("town", -2, x.town(1));
        C.due("none yet", -1, x.fault());
        bad(x, "fac", 3);
        C.due("town", -2, x.town(1));
        C.due("the latest that came to a row", 3, x.fault());
        x.town(8);
        x.town(2);
        C.due("the latest that came to a row", 3, x.fault());
        good(x, "fact 3", 1);
        C.due("fault asked again", -1, x.fault());
    }
}
