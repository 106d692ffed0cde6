import java.util.ArrayList;
import java.util.List;
import java.util.TreeSet;

/** The document once more, world by world and row by row, without any of the class's shortcuts. */
final class PlainTown {
    static final class Saying {
        final int s;
        final int f;
        final boolean so;
        final int number;

        Saying(int s, int f, boolean so, int number) {
            this.s = s;
            this.f = f;
            this.so = so;
            this.number = number;
        }

        boolean isTrueIn(int w) {
            return (w / (int) Math.pow(2, f) % 2 == 1) == so;
        }
    }

    List<Integer> harms = new ArrayList<>();
    List<int[]> speakers = new ArrayList<>();
    List<Saying> sayings = new ArrayList<>();
    TreeSet<Integer> left = new TreeSet<>(List.of(0));
    int n = 4;
    int t = 2;
    int days = 0;
    int seed = 1;
    int drawn = -1;

    PlainTown copyOf() {
        PlainTown c = new PlainTown();
        c.harms = new ArrayList<>(harms);
        c.speakers = new ArrayList<>(speakers);
        c.sayings = new ArrayList<>(sayings);
        c.left = new TreeSet<>(left);
        c.n = n;
        c.t = t;
        c.days = days;
        c.seed = seed;
        c.drawn = drawn;
        return c;
    }

    int allWorlds() {
        return (int) Math.pow(2, harms.size());
    }

    boolean isFact(long f) {
        return f >= 0 && f < harms.size();
    }

    boolean isSpeaker(long s) {
        return s >= 0 && s < speakers.size();
    }

    int count(int s) {
        return (int) sayings.stream().filter(y -> y.s == s).count();
    }

    boolean isFull(int s) {
        return count(s) >= n;
    }

    void addFact(int harm) {
        TreeSet<Integer> more = new TreeSet<>();
        for (int w : left) {
            more.add(w);
            more.add(w + allWorlds());
        }
        left = more;
        harms.add(harm);
    }

    void put(int s, int f, boolean so) {
        sayings.add(new Saying(s, f, so, count(s)));
    }

    /** Whether a row of trues and falses, by numbers, can be by a kind; null: not said. */
    boolean lets(int kind, int a, Boolean[] row) {
        int trues = 0;
        int falses = 0;
        for (int i = 0; i < row.length; i++) {
            if (row[i] == null) {
                continue;
            }
            boolean v = row[i];
            if (v) {
                trues++;
            } else {
                falses++;
            }
            Boolean must = must(kind, a, i);
            if (must != null && must != v) {
                return false;
            }
            if (kind == 6 && i % 2 == 1 && row[i - 1] != null && row[i - 1] == v) {
                return false;
            }
        }
        return kind != 0 || trues <= t && falses <= n - t;
    }

    Boolean must(int kind, int a, int i) {
        switch (kind) {
            case 1:
                return i < t;
            case 2:
                return !(i < n - t);
            case 3:
                if (t > 0 && t < n) {
                    if (i == t - 1) {
                        return false;
                    }
                    if (i == n - 1) {
                        return true;
                    }
                }
                return i < t;
            case 4:
                return a / (int) Math.pow(2, i) % 2 == 1;
            case 5:
                return a / (int) Math.pow(2, i) % 2 == 0;
            default:
                return null;
        }
    }

    boolean canBe(int s, int w, List<Saying> said) {
        return canBe(s, w, said, null);
    }

    /** With next: as if one more had been said, true or false. */
    boolean canBe(int s, int w, List<Saying> said, Boolean next) {
        Boolean[] row = new Boolean[12];
        for (Saying y : said) {
            if (y.s == s) {
                row[y.number] = y.isTrueIn(w);
            }
        }
        if (next != null) {
            row[count(s)] = next;
        }
        return lets(speakers.get(s)[0], speakers.get(s)[1], row);
    }

    TreeSet<Integer> worlds(List<Saying> said) {
        TreeSet<Integer> all = new TreeSet<>();
        for (int w : left) {
            boolean good = true;
            for (int s = 0; s < speakers.size(); s++) {
                good &= canBe(s, w, said);
            }
            if (good) {
                all.add(w);
            }
        }
        return all;
    }

    TreeSet<Integer> worlds() {
        return worlds(sayings);
    }

    int sure(TreeSet<Integer> worlds, int f) {
        int in = 0;
        for (int w : worlds) {
            in += w >> f & 1;
        }
        if (worlds.isEmpty() || in > 0 && in < worlds.size()) {
            return -1;
        }
        return in > 0 ? 1 : 0;
    }

    TreeSet<Integer> after(int s, int f, boolean so) {
        List<Saying> more = new ArrayList<>(sayings);
        more.add(new Saying(s, f, so, count(s)));
        return worlds(more);
    }

    int can(int s, int f, int what) {
        if (isFull(s)) {
            return 0;
        }
        for (int so = 0; so < 2; so++) {
            for (int w : after(s, f, so == 1)) {
                boolean isTrue = (w >> f & 1) == so;
                if (what == 3 - so || what == 1 && isTrue || what == 0 && !isTrue) {
                    return 1;
                }
            }
        }
        return 0;
    }

    int proof(int f) {
        int now = sure(worlds(), f);
        int best = sayings.size();
        for (int set = 0; set < 1 << sayings.size(); set++) {
            List<Saying> some = new ArrayList<>();
            for (int i = 0; i < sayings.size(); i++) {
                if ((set >> i & 1) == 1) {
                    some.add(sayings.get(i));
                }
            }
            if (some.size() < best && sure(worlds(some), f) == now) {
                best = some.size();
            }
        }
        return best;
    }

    int worst(int s, int f) {
        return Math.max(after(s, f, true).size(), after(s, f, false).size());
    }

    int next() {
        int best = -5;
        int least = 1000;
        for (int s = 0; s < speakers.size(); s++) {
            for (int f = 0; f < harms.size(); f++) {
                if (!isFull(s) && worst(s, f) < least) {
                    least = worst(s, f);
                    best = 10 * s + f;
                }
            }
        }
        return best;
    }

    boolean knows(int f, int k) {
        TreeSet<Integer> worlds = worlds();
        if (sure(worlds, f) >= 0) {
            return true;
        }
        if (k == 0) {
            return false;
        }
        for (int q = 0; q < speakers.size() * harms.size(); q++) {
            int s = q / harms.size();
            int about = q % harms.size();
            if (isFull(s)) {
                continue;
            }
            boolean good = true;
            for (int so = 0; so < 2 && good; so++) {
                PlainTown then = copyOf();
                then.put(s, about, so == 1);
                good = then.worlds().isEmpty() || then.knows(f, k - 1);
            }
            if (good) {
                return true;
            }
        }
        return false;
    }

    int rows(int s, int m) {
        int sum = 0;
        for (int bits = 0; bits < 1 << m; bits++) {
            Boolean[] row = new Boolean[m];
            for (int i = 0; i < m; i++) {
                row[i] = (bits >> i & 1) == 1;
            }
            if (lets(speakers.get(s)[0], speakers.get(s)[1], row)) {
                sum++;
            }
        }
        return sum;
    }

    /** The harm and the places of the lies, by looking at all sets of places. */
    int[] errands(long[] row, int a) {
        int facts = 0;
        for (long e : row) {
            facts += isFact((int) e) ? 1 : 0;
        }
        int lies = Math.max(0, Math.min(n - t, facts + a) - a);
        int[] best = {Integer.MAX_VALUE, 0};
        for (int set = 0; set < 1 << row.length; set++) {
            int harm = Integer.bitCount(set) == lies ? 0 : Integer.MAX_VALUE;
            for (int i = 0; i < row.length && harm < Integer.MAX_VALUE; i++) {
                if ((set >> i & 1) == 1) {
                    harm = isFact((int) row[i]) ? harm + harms.get((int) row[i]) : Integer.MAX_VALUE;
                }
            }
            // Of several the first ones: the set whose first difference is a lie earlier.
            if (harm < best[0] || harm == best[0] && harm < Integer.MAX_VALUE
                    && Integer.compareUnsigned(Integer.reverse(set), Integer.reverse(best[1])) > 0) {
                best[0] = harm;
                best[1] = set;
            }
        }
        return best;
    }

    int trust(int s) {
        Boolean must = must(speakers.get(s)[0], speakers.get(s)[1], count(s));
        int sum = 0;
        for (int w : worlds()) {
            if (must != null) {
                sum += must ? 1 : 0;
            } else {
                sum += canBe(s, w, sayings, true) ? 1 : 0;
                sum -= canBe(s, w, sayings, false) ? 1 : 0;
            }
        }
        return sum;
    }

    int witness() {
        int best = -5;
        int most = -1;
        for (int s = 0; s < speakers.size(); s++) {
            List<Saying> others = new ArrayList<>(sayings);
            int gone = s;
            others.removeIf(y -> y.s == gone);
            int size = worlds(others).size();
            if (size > most) {
                most = size;
                best = s;
            }
        }
        return best;
    }

    int judge(long[] row, int first) {
        PlainTown day = copyOf();
        for (int i = 0; i < first; i++) {
            int v = (int) row[i];
            boolean good = v >= 0 && v % 10 < 2 && isFact(v / 10 % 10) && isSpeaker(v / 100)
                    && !day.isFull(v / 100);
            if (good) {
                day.put(v / 100, v / 10 % 10, v % 10 == 1);
                good = !day.worlds().isEmpty();
            }
            if (!good) {
                return i;
            }
        }
        return -1;
    }

    int drawBelow(int below) {
        seed = seed * 1103515245 + 12345;
        return (int) ((seed & 0xFFFFFFFFL) / 65536L) % below;
    }

    /** 1 or 0 as said; -6 or -7, and the seed as it was, if it can't be or there is no room. */
    int ask(int s, int f) {
        int before = seed;
        Boolean truth = must(speakers.get(s)[0], speakers.get(s)[1], count(s));
        if (truth == null) {
            boolean canTrue = canBe(s, drawn, sayings, true);
            boolean canFalse = canBe(s, drawn, sayings, false);
            if (canTrue && canFalse) {
                truth = drawBelow(2) == 1;
            } else if (canTrue || canFalse) {
                truth = canTrue;
            } else {
                return -6;
            }
        }
        boolean so = truth == ((drawn >> f & 1) == 1);
        int no = after(s, f, so).isEmpty() ? -6 : sayings.size() == 24 ? -7 : 0;
        if (no != 0) {
            seed = before;
            return no;
        }
        put(s, f, so);
        return so ? 1 : 0;
    }

    // The text of a town: answers the fault, -1 if there is none; items are counted.

    int items;
    private int at;
    private int first;
    private int number;

    int read(String text) {
        items = 0;
        at = 0;
        while (true) {
            int fault = readItem(text);
            if (fault >= 0) {
                return fault;
            }
            items++;
            if (at == text.length()) {
                return -1;
            }
            if (text.charAt(at) != ';') {
                return at;
            }
            at++;
        }
    }

    private int readItem(String text) {
        int farthest = 0;
        for (String word : List.of("fact", "man", "law", "says", "known")) {
            if (text.startsWith(word, at)) {
                if (!canStand(word)) {
                    return at;
                }
                at += word.length();
                return isBlank(text) ? readNumbers(text, word) : at;
            }
            int same = 0;
            while (at + same < text.length() && same < word.length()
                    && text.charAt(at + same) == word.charAt(same)) {
                same++;
            }
            farthest = Math.max(farthest, same);
        }
        return at + farthest;
    }

    private boolean canStand(String word) {
        switch (word) {
            case "fact":
                return harms.size() < 6;
            case "man":
                return speakers.size() < 6;
            case "law":
                return sayings.isEmpty();
            case "says":
                return sayings.size() < 24;
            default:
                return true;
        }
    }

    private boolean isNumber(String text, int least, int most) {
        int end = at;
        while (end < text.length() && end < at + 4 && Character.isDigit(text.charAt(end))) {
            end++;
        }
        first = at;
        if (end == at) {
            return false;
        }
        number = Integer.parseInt(text.substring(at, end));
        at = end;
        return number >= least && number <= most;
    }

    private boolean isBlank(String text) {
        first = at;
        if (at < text.length() && text.charAt(at) == ' ') {
            at++;
            return true;
        }
        return false;
    }

    private int readNumbers(String text, String word) {
        int a;
        int b;
        switch (word) {
            case "fact":
                if (!isNumber(text, 0, 99)) {
                    return first;
                }
                addFact(number);
                return -1;
            case "man":
                if (!isNumber(text, 0, 6)) {
                    return first;
                }
                a = number;
                if (!isBlank(text) || !isNumber(text, 0, 1023)) {
                    return first;
                }
                speakers.add(new int[] {a, number});
                return -1;
            case "law":
                if (!isNumber(text, 2, 10)) {
                    return first;
                }
                a = number;
                if (!isBlank(text) || !isNumber(text, 0, a)) {
                    return first;
                }
                n = a;
                t = number;
                return -1;
            case "says":
                if (!isNumber(text, 0, speakers.size() - 1) || isFull(number)) {
                    return first;
                }
                a = number;
                if (!isBlank(text) || !isNumber(text, 0, harms.size() - 1)) {
                    return first;
                }
                b = number;
                if (!isBlank(text) || !isNumber(text, 0, 1)
                        || after(a, b, number == 1).isEmpty()) {
                    return first;
                }
                put(a, b, number == 1);
                return -1;
            default:
                if (!isNumber(text, 0, harms.size() - 1)) {
                    return first;
                }
                a = number;
                if (!isBlank(text) || !isNumber(text, 0, 1) || !know(a, number == 1)) {
                    return first;
                }
                return -1;
        }
    }

    /** Changes nothing if no world would be. */
    boolean know(int f, boolean so) {
        int other = so ? 0 : 1;
        TreeSet<Integer> worlds = worlds();
        worlds.removeIf(w -> (w >> f & 1) == other);
        if (worlds.isEmpty()) {
            return false;
        }
        left.removeIf(w -> (w >> f & 1) == other);
        return true;
    }
}
