import java.math.BigInteger;
import java.util.ArrayList;
import java.util.List;
import java.util.TreeSet;
import java.util.regex.Matcher;
import java.util.regex.Pattern;

/**
 * The document told a second time, as slowly and plainly as can be: sets of facts, whole copies of the town,
 * every choice tried. SecondTellingTest holds the class against it.
 */
final class SlowTown {
    private static final Pattern TOWN =
        Pattern.compile("(?:t[0-9]{6};|p[0-9]{3};|l[0-9]{4};|o[0-9]{2};|c[0-9]{2};|d[0-9]{2};)+");

    static final class Person {
        int kind;
        int figure;
        int cares;
        List<TreeSet<Integer>> knows = new ArrayList<>();

        Person(int kind, int figure, int cares) {
            this.kind = kind;
            this.figure = figure;
            this.cares = cares;
            for (int t = 0; t < 5; t++) {
                knows.add(new TreeSet<>());
            }
        }

        Person twin() {
            Person twin = new Person(kind, figure, cares);
            for (int t = 0; t < 5; t++) {
                twin.knows.get(t).addAll(knows.get(t));
            }
            return twin;
        }

        boolean isOld() {
            return kind == 1 || kind == 4 || kind == 7;
        }

        boolean isLiar() {
            return kind == 2 || kind == 5;
        }
    }

    static final class State {
        int day = 0;
        int[] past = {4095, 4095, 4095, 4095, 4095};
        int[] worth = {1, 1, 1, 1, 1};
        int[] owner = {9, 9, 9, 9, 9};
        List<Person> people = new ArrayList<>();

        State twin() {
            State twin = new State();
            twin.day = day;
            twin.past = past.clone();
            twin.worth = worth.clone();
            twin.owner = owner.clone();
            for (Person p : people) {
                twin.people.add(p.twin());
            }
            return twin;
        }

        boolean isTrue(int t, int fact) {
            return (past[t] & (1 << fact)) != 0;
        }

        int story(int p, int t) {
            return story(people.get(p), t, people.get(p).knows.get(t));
        }

        int story(Person one, int t, TreeSet<Integer> known) {
            int right = 0;
            int late = 0;
            int lies = 0;
            for (int fact : known) {
                if (!isTrue(t, fact)) {
                    lies++;
                } else {
                    right++;
                    if (fact >= 6) {
                        late++;
                    }
                }
            }
            switch (one.kind) {
                case 0: return right;
                case 1: return right > 0 ? right + one.figure / 3 : right;
                case 2:
                case 5: return right + lies / 2;
                case 3: return right + late;
                case 4: return right > 0 ? right + one.figure / 3 + 2 : 0;
                case 6: return right + late > 0 ? right + late - 1 : 0;
                default: return 0;
            }
        }

        int learnsOn(int p, int d) {
            Person one = people.get(p);
            if (one.cares == 9) {
                return 0;
            }
            switch (one.kind) {
                case 0: return 1;
                case 1:
                case 4: return d % 2 == 0 ? 1 : 0;
                case 2: return 2;
                case 3: return owner[one.cares] == p ? 1 : 2;
                case 5: return one.figure / 2;
                case 6: return 3;
                default: return 0;
            }
        }

        void oneDay() {
            day++;
            for (int p = 0; p < people.size(); p++) {
                Person one = people.get(p);
                int lessons = learnsOn(p, day);
                for (int fact = 0; fact < 12 && lessons > 0; fact++) {
                    boolean wanted = one.isLiar() || isTrue(one.cares, fact);
                    if (wanted && one.knows.get(one.cares).add(fact)) {
                        lessons--;
                    }
                }
                if (one.isOld() && day % 7 == 0) {
                    for (TreeSet<Integer> known : one.knows) {
                        known.pollLast();
                    }
                }
            }
            for (int t = 0; t < 5; t++) {
                int best = -1;
                for (int p = 0; p < people.size(); p++) {
                    if (p != owner[t] && (best < 0 || story(p, t) > story(best, t))) {
                        best = p;
                    }
                }
                int ofOwner = owner[t] == 9 ? 0 : story(owner[t], t);
                if (best >= 0 && story(best, t) > ofOwner) {
                    owner[t] = best;
                }
            }
        }

        State on(int n) {
            State then = twin();
            for (int i = 0; i < n; i++) {
                then.oneDay();
            }
            return then;
        }

        int owns(int p) {
            int bits = 0;
            for (int t = 0; t < 5; t++) {
                bits += owner[t] == p ? 1 << t : 0;
            }
            return bits;
        }

        int worthOf(int p) {
            int sum = 0;
            for (int t = 0; t < 5; t++) {
                sum += owner[t] == p ? worth[t] : 0;
            }
            return sum;
        }
    }

    State s = new State();
    State image = null;
    /** Of each shelf: null, {KIND, FIGURE}, or {SORT, elements ..} told by isRow. */
    int[][] shelf = new int[8][];
    boolean[] isRow = new boolean[8];

    private boolean noOne(int p) {
        return p < 0 || p >= s.people.size();
    }

    private static boolean noThing(int t) {
        return t < 0 || t > 4;
    }

    private static boolean out(int n, int from, int to) {
        return n < from || n > to;
    }

    private int rowWrong(int d) {
        return shelf[d] == null ? -11 : isRow[d] ? 0 : -12;
    }

    private int oneWrong(int d) {
        return shelf[d] == null ? -11 : isRow[d] ? -12 : 0;
    }

    private int told(int d, int i) {
        return shelf[d][i + 1];
    }

    private int toldSize(int d) {
        return shelf[d].length - 1;
    }

    private boolean skipped(int d, int i) {
        int[] least = {Byte.MIN_VALUE, Short.MIN_VALUE, Integer.MIN_VALUE};
        return told(d, i) == least[shelf[d][0]];
    }

    // ---- the town as told

    int town(int d) {
        if (out(d, 0, 7)) return -1;
        if (shelf[d] == null) return -11;
        if (!isRow[d] || shelf[d][0] != 0) return -12;
        StringBuilder b = new StringBuilder();
        for (int i = 0; i < toldSize(d); i++) {
            b.append((char) (told(d, i) & 255));
        }
        String text = b.toString();
        for (int i = 0; i < text.length(); i++) {
            Matcher m = TOWN.matcher(text.substring(0, i + 1));
            if (!m.matches() && !m.hitEnd()) {
                return -1000 - i;
            }
        }
        if (!TOWN.matcher(text).matches()) {
            return -1000 - text.length();
        }
        State trial = s.twin();
        int done = 0;
        int at = 0;
        for (String statement : text.split(";")) {
            if (!obey(trial, statement)) {
                return -2000 - at;
            }
            at += statement.length() + 1;
            done++;
        }
        s = trial;
        return done;
    }

    private static boolean obey(State x, String st) {
        int a = st.charAt(1) - '0';
        int b = st.charAt(2) - '0';
        int n = x.people.size();
        switch (st.charAt(0)) {
            case 't': {
                int facts = Integer.parseInt(st.substring(2, 6));
                if (a > 4 || facts > 4095) return false;
                x.past[a] = facts;
                x.worth[a] = st.charAt(6) - '0';
                return true;
            }
            case 'p': {
                int c = st.charAt(3) - '0';
                if (a > 7 || c > 4 && c != 9 || n == 7) return false;
                x.people.add(new Person(a, b, c));
                return true;
            }
            case 'l': {
                int fact = Integer.parseInt(st.substring(3));
                if (a >= n || b > 4 || fact > 11) return false;
                TreeSet<Integer> known = x.people.get(a).knows.get(b);
                if (!known.remove(fact)) known.add(fact);
                return true;
            }
            case 'o':
                if (a > 4 || b >= n && b != 9) return false;
                x.owner[a] = b;
                return true;
            case 'c':
                if (a >= n || b > 4 && b != 9) return false;
                x.people.get(a).cares = b;
                return true;
            default: {
                int days = 10 * a + b;
                if (days < 1 || days > 60 || x.day + days > 999) return false;
                for (int i = 0; i < days; i++) x.oneDay();
                return true;
            }
        }
    }

    private static int bits(TreeSet<Integer> facts) {
        int sum = 0;
        for (int fact : facts) sum += 1 << fact;
        return sum;
    }

    int one(int p, int what) {
        if (noOne(p) || out(what, 0, 4)) return -1;
        Person x = s.people.get(p);
        int[] answers = {x.kind, x.figure, x.cares, s.owns(p), s.learnsOn(p, s.day + 1)};
        return answers[what];
    }

    int thing(int t, int what) {
        if (noThing(t) || out(what, 0, 2)) return -1;
        int[] answers = {s.past[t], s.worth[t], s.owner[t] == 9 ? -4 : s.owner[t]};
        return answers[what];
    }

    int story(int p, int t, int what) {
        if (noOne(p) || noThing(t) || out(what, 0, 1)) return -1;
        return what == 0 ? bits(s.people.get(p).knows.get(t)) : s.story(p, t);
    }

    int comes(int d, int cares) {
        if (out(d, 0, 7) || noThing(cares) && cares != 9) return -1;
        if (oneWrong(d) != 0) return oneWrong(d);
        if (s.people.size() == 7) return -2;
        s.people.add(new Person(shelf[d][0], shelf[d][1], cares));
        return s.people.size() - 1;
    }

    int learns(int p, int t, int fact) {
        if (noOne(p) || noThing(t) || out(fact, 0, 11)) return -1;
        TreeSet<Integer> known = s.people.get(p).knows.get(t);
        if (known.contains(fact)) {
            known.remove(fact);
            return 0;
        }
        known.add(fact);
        return 1;
    }

    int cares(int p, int t) {
        if (noOne(p) || noThing(t) && t != 9) return -1;
        int old = s.people.get(p).cares;
        s.people.get(p).cares = t;
        return old;
    }

    int gives(int t, int p) {
        if (noThing(t) || noOne(p) && p != 9) return -1;
        int old = thing(t, 2);
        s.owner[t] = p;
        return old;
    }

    int past(int t, int facts) {
        if (noThing(t) || out(facts, 0, 4095)) return -1;
        int old = s.past[t];
        s.past[t] = facts;
        return old;
    }

    int days(int n) {
        if (out(n, 1, 60)) return -1;
        if (s.day + n > 999) return -3;
        s = s.on(n);
        return 5 - Integer.bitCount(s.owns(9));
    }

    // ---- days on

    int ownerThen(int t, int n) {
        if (noThing(t) || out(n, 0, 60)) return -1;
        int owner = s.on(n).owner[t];
        return owner == 9 ? -4 : owner;
    }

    int storyThen(int p, int t, int n) {
        if (noOne(p) || noThing(t) || out(n, 0, 60)) return -1;
        return s.on(n).story(p, t);
    }

    int ownsThen(int p, int n, int what) {
        if (noOne(p) || out(n, 0, 60) || out(what, 0, 1)) return -1;
        return what == 0 ? s.on(n).owns(p) : s.on(n).worthOf(p);
    }

    int when(int p, int t) {
        if (noOne(p) || noThing(t)) return -1;
        for (int n = 0; n <= 60; n++) {
            if (s.on(n).owner[t] == p) return n;
        }
        return -4;
    }

    int loses(int t) {
        if (noThing(t)) return -1;
        if (s.owner[t] == 9) return -4;
        for (int n = 0; n <= 60; n++) {
            if (s.on(n).owner[t] != s.owner[t]) return n;
        }
        return -4;
    }

    // ---- what to look after, whom to ask

    int lookAfter(int p, int n, int what) {
        if (noOne(p) || out(n, 0, 60) || out(what, 0, 1)) return -1;
        int[] choices = {0, 1, 2, 3, 4, 9};
        int best = Integer.MIN_VALUE;
        int first = -99;
        for (int c : choices) {
            State x = s.twin();
            x.people.get(p).cares = c;
            int worth = x.on(n).worthOf(p);
            if (worth > best) {
                best = worth;
                first = c;
            }
        }
        return what == 0 ? first : best;
    }

    int win(int p, int t) {
        if (noOne(p) || noThing(t)) return -1;
        TreeSet<Integer> known = new TreeSet<>(s.people.get(p).knows.get(t));
        List<Integer> lacking = new ArrayList<>();
        for (int fact = 0; fact < 12; fact++) {
            if (s.isTrue(t, fact) && !known.contains(fact)) lacking.add(fact);
        }
        for (int k = 0; k <= lacking.size(); k++) {
            TreeSet<Integer> then = new TreeSet<>(known);
            then.addAll(lacking.subList(0, k));
            int his = s.story(s.people.get(p), t, then);
            boolean wins = his > 0;
            for (int q = 0; q < s.people.size(); q++) {
                wins &= q == p || his > s.story(q, t);
            }
            if (wins) return k;
        }
        return -4;
    }

    int ask(int p, int t) {
        if (noOne(p) || noThing(t)) return -1;
        int best = s.story(p, t);
        int whom = -4;
        for (int q = 0; q < s.people.size(); q++) {
            TreeSet<Integer> then = new TreeSet<>(s.people.get(p).knows.get(t));
            then.addAll(s.people.get(q).knows.get(t));
            int his = s.story(s.people.get(p), t, then);
            if (q != p && his > best) {
                best = his;
                whom = q;
            }
        }
        return whom;
    }

    private int bestSum;
    private int[] bestCarers;

    int care(int t) {
        if (out(t, -1, 4)) return -1;
        bestSum = -1;
        tryCarers(new int[5], 0, 0);
        if (t == -1) return bestSum;
        return bestCarers[t] == 9 ? -4 : bestCarers[t];
    }

    /** Every way in the order of the document, so that the first of the best is the first found. */
    private void tryCarers(int[] carers, int t, int sum) {
        if (t == 5) {
            if (sum > bestSum) {
                bestSum = sum;
                bestCarers = carers.clone();
            }
            return;
        }
        for (int p = 0; p < s.people.size(); p++) {
            boolean free = true;
            for (int u = 0; u < t; u++) free &= carers[u] != p;
            if (free) {
                carers[t] = p;
                tryCarers(carers, t + 1, sum + s.story(p, t));
            }
        }
        carers[t] = 9;
        tryCarers(carers, t + 1, sum);
    }

    int richest(int what) {
        int n = s.people.size();
        if (what == 0) {
            for (int w = 45; w >= 0; w--) {
                for (int p = 0; p < n; p++) {
                    if (s.worthOf(p) == w) return p;
                }
            }
            return -4;
        }
        if (what == 1) return s.owns(9);
        if (what == 2) {
            for (int length = 40; length > 0; length--) {
                for (int p = 0; p < n; p++) {
                    for (int t = 0; t < 5; t++) {
                        if (s.story(p, t) == length) return 10 * p + t;
                    }
                }
            }
            return -4;
        }
        if (what == 3) {
            List<int[]> owners = new ArrayList<>();
            for (int m = 0; m <= 60; m++) owners.add(s.on(m).owner);
            for (int m = 0; m <= 50; m++) {
                boolean still = true;
                for (int k = 1; k <= 10; k++) still &= java.util.Arrays.equals(owners.get(m), owners.get(m + k));
                if (still) return m;
            }
            return -4;
        }
        return -1;
    }

    int common(int t, int what) {
        if (noThing(t) || out(what, 0, 3)) return -1;
        int n = s.people.size();
        if (what == 3) {
            int twos = 0;
            for (int p = 0; p < n; p++) {
                for (int q = 0; q < p; q++) {
                    if (s.story(p, t) > 0 && s.story(p, t) == s.story(q, t)) twos++;
                }
            }
            return twos;
        }
        int sum = 0;
        for (int fact = 0; fact < 12; fact++) {
            int knowers = 0;
            for (Person one : s.people) knowers += one.knows.get(t).contains(fact) ? 1 : 0;
            boolean[] so = {n > 0 && knowers == n, knowers == 1, knowers == 0 && s.isTrue(t, fact)};
            sum += so[what] ? 1 << fact : 0;
        }
        return sum;
    }

    // ---- what kind one is, which past

    int whatIs(int d, int p, int what) {
        if (out(d, 0, 7) || noOne(p) || out(what, 0, 1)) return -1;
        if (rowWrong(d) != 0) return rowWrong(d);
        int sum = 0;
        for (int k = 0; k < (what == 0 ? 8 : 10); k++) {
            State x = s.twin();
            Person one = x.people.get(p);
            if (what == 0) one.kind = k;
            else one.figure = k;
            boolean so = true;
            for (int i = 0; i < toldSize(d); i++) {
                int story = one.cares == 9 ? 0 : x.story(p, one.cares);
                so &= skipped(d, i) || told(d, i) == story;
                x.oneDay();
            }
            sum += so ? 1 << k : 0;
        }
        return sum;
    }

    int whichPast(int d, int t, int what) {
        if (out(d, 0, 7) || noThing(t) || out(what, 0, 2)) return -1;
        if (rowWrong(d) != 0) return rowWrong(d);
        List<Integer> pasts = new ArrayList<>();
        State x = s.twin();
        for (int past = 0; past < 4096; past++) {
            x.past[t] = past;
            boolean so = toldSize(d) <= x.people.size();
            for (int i = 0; so && i < toldSize(d); i++) {
                so = skipped(d, i) || told(d, i) == x.story(i, t);
            }
            if (so) pasts.add(past);
        }
        if (what == 0) return pasts.size();
        if (pasts.isEmpty()) return -4;
        return pasts.get(what == 1 ? 0 : pasts.size() - 1);
    }

    private int[] gain(int a, int b, int t, int n, int x, int y) {
        State then = s.twin();
        if (x == 1) then.people.get(a).cares = t;
        if (y == 1) then.people.get(b).cares = t;
        then = then.on(n);
        return new int[] {then.worthOf(a) - x, then.worthOf(b) - y};
    }

    int two(int a, int b, int t, int n) {
        if (noOne(a) || noOne(b) || a == b || noThing(t) || out(n, 1, 30)) return -1;
        for (int x = 0; x < 2; x++) {
            for (int y = 0; y < 2; y++) {
                int[] here = gain(a, b, t, n, x, y);
                if (gain(a, b, t, n, 1 - x, y)[0] <= here[0] && gain(a, b, t, n, x, 1 - y)[1] <= here[1]) {
                    return 10 * x + y;
                }
            }
        }
        return -4;
    }

    long floods(int p, int t, int n, int u, int part) {
        if (noOne(p) || noThing(t) || out(n, 0, 7) || out(u, 2, 20) || out(part, 0, 1)) return 1000000001L;
        BigInteger above = BigInteger.ZERO;
        for (int floods = 0; floods < 1 << n; floods++) {
            State x = s.twin();
            BigInteger odds = BigInteger.ONE;
            for (int i = 0; i < n; i++) {
                if ((floods >> i & 1) == 1) {
                    for (Person one : x.people) {
                        for (TreeSet<Integer> known : one.knows) known.pollFirst();
                    }
                } else {
                    odds = odds.multiply(BigInteger.valueOf(u - 1));
                }
                x.oneDay();
            }
            if (x.owner[t] == p) above = above.add(odds);
        }
        return fraction(above, BigInteger.valueOf(u).pow(n), part);
    }

    private static long fraction(BigInteger above, BigInteger below, int part) {
        BigInteger g = above.gcd(below);
        return (part == 0 ? above : below).divide(g).longValueExact();
    }

    long share(int p, int part) {
        if (noOne(p) || out(part, 0, 1)) return 1000000001L;
        int all = count(3);
        if (all == 0) return part;
        return fraction(BigInteger.valueOf(s.worthOf(p)), BigInteger.valueOf(all), part);
    }

    // ---- told deeds, years by seeds

    int forged(int d) {
        if (out(d, 0, 7)) return -1;
        if (rowWrong(d) != 0) return rowWrong(d);
        for (int i = 0; i < toldSize(d); i++) {
            if (i > 4 || told(d, i) != s.owner[i]) return i;
        }
        return -4;
    }

    int judge(int d, int p) {
        if (out(d, 0, 7) || noOne(p)) return -1;
        if (rowWrong(d) != 0) return rowWrong(d);
        State x = s.twin();
        for (int i = 0; i < toldSize(d); i++) {
            if (!skipped(d, i) && told(d, i) != Integer.bitCount(x.owns(p))) return i;
            x.oneDay();
        }
        return -4;
    }

    private int seed;

    private int draw(int below) {
        seed = (int) (seed * 1103515245L + 12345L);
        return (int) (((seed & 0xffffffffL) % 0x80000000L) / 65536L) % below;
    }

    int years(int n, int z, int what) {
        if (out(n, 1, 20) || out(what, 0, 1)) return -1;
        seed = z;
        int owned = 0;
        int others = 0;
        for (int i = 0; i < n; i++) {
            State x = s.twin();
            for (int t = 0; t < 5; t++) x.past[t] = draw(4096);
            for (Person one : x.people) one.cares = draw(5);
            x = x.on(8);
            for (int t = 0; t < 5; t++) {
                owned += x.owner[t] == 9 ? 0 : 1;
                others += x.owner[t] == 9 || x.owner[t] == s.owner[t] ? 0 : 1;
            }
        }
        return what == 0 ? owned : others;
    }

    // ---- the image, what is told

    int image() {
        image = s.twin();
        return s.day;
    }

    int restore() {
        if (image == null) return -3;
        s = image.twin();
        return s.day;
    }

    int count(int what) {
        switch (what) {
            case 0: return s.people.size();
            case 1: return s.day;
            case 2: return 31 - s.owns(9);
            case 3: return s.worth[0] + s.worth[1] + s.worth[2] + s.worth[3] + s.worth[4];
            case 4: {
                int sum = 0;
                for (Person one : s.people) {
                    for (TreeSet<Integer> known : one.knows) sum += known.size();
                }
                return sum;
            }
            default: return -1;
        }
    }

    // ---- shelves

    int keep(int d, int what, int k, int figure) {
        if (out(d, 0, 7) || out(what, 0, 1)) return -1;
        if (what == 1 && (out(k, 0, 7) || out(figure, 0, 9))) return -1;
        shelf[d] = what == 0 ? null : new int[] {k, figure};
        isRow[d] = false;
        return 0;
    }

    int row(int d, int sort, int n) {
        if (out(d, 0, 7) || out(sort, 0, 2) || n > 100) return -1;
        if (n < 0) return -14;
        shelf[d] = new int[n + 1];
        shelf[d][0] = sort;
        isRow[d] = true;
        return 0;
    }

    int put(int d, int i, int v) {
        if (out(d, 0, 7)) return -1;
        if (rowWrong(d) != 0) return rowWrong(d);
        if (out(i, 0, toldSize(d) - 1)) return -13;
        int[] cut = {(byte) v, (short) v, v};
        shelf[d][i + 1] = cut[shelf[d][0]];
        return 0;
    }

    long element(int d, int i) {
        if (out(d, 0, 7)) throw new IllegalArgumentException();
        if (rowWrong(d) != 0 || out(i, 0, toldSize(d) - 1)) throw new IllegalStateException();
        return told(d, i);
    }

    int copy(int d, int i, int e, int j, int n) {
        if (out(d, 0, 7) || out(e, 0, 7)) return -1;
        if (shelf[d] == null || shelf[e] == null) return -11;
        if (!isRow[d] || !isRow[e] || shelf[d][0] != shelf[e][0]) return -12;
        if (i < 0 || j < 0 || n < 0 || (long) i + n > toldSize(d) || (long) j + n > toldSize(e)) return -13;
        int[] from = shelf[d].clone();
        for (int k = 0; k < n; k++) shelf[e][j + k + 1] = from[i + k + 1];
        return n;
    }

    int cost(int d) {
        if (out(d, 0, 7)) return -1;
        if (oneWrong(d) != 0) return oneWrong(d);
        int f = shelf[d][1];
        int[] costs = {2, 1, 2 + f, 3, 7, 4 + 2 * f, 0, 1};
        return costs[shelf[d][0]];
    }

    int toss(int d) {
        if (out(d, 0, 7)) return -1;
        if (oneWrong(d) != 0) return oneWrong(d);
        int f = shelf[d][1];
        int[] failures = {f, -15, 100 + f, f, -15, 100 + f, 200 + 2 * f, -15};
        return f == 0 ? -15 : failures[shelf[d][0]];
    }
}
