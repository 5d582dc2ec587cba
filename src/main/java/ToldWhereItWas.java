import java.util.Arrays;

/**
 * A town where a thing is owned by whoever can tell where it has been.
 * What every call answers is told, promise by promise, in ../shared/DOC.md.
 */
public final class ToldWhereItWas {
    private static final int THINGS = 5;
    private static final int MOST_PEOPLE = 7;
    private static final int FACTS = 12;
    private static final int ALL_FACTS = 4095;
    private static final int LATE_FACTS = 4032;
    private static final int KINDS = 8;
    private static final int FIGURES = 10;
    private static final int NOBODY = 9;
    private static final int LAST_DAY = 999;
    private static final int FARTHEST = 60;
    private static final int QUIET_DAYS = 10;
    private static final int MOST_FLOODS = 7;
    private static final int SHELVES = 8;
    private static final int LONGEST_ROW = 100;
    private static final int CROWDS = 128;
    private static final int YEAR = 8;
    private static final int LEAST_BYTE = -128;
    private static final int LEAST_SHORT = -32768;
    private static final int LEAST_INT = -2147483648;
    private static final int WITHOUT_SIGN = 2147483647;

    private static final int NO_SUCH = -1;
    private static final int NO_ROOM = -2;
    private static final int NOT_SO = -3;
    private static final int NONE = -4;
    private static final int HOLDS_NOTHING = -11;
    private static final int OTHER_KIND = -12;
    private static final int NO_PLACE = -13;
    private static final int SIZE_BELOW_0 = -14;
    private static final int NO_FAILURE = -15;
    private static final int GRAMMAR_FAULT = -1000;
    private static final int SENSE_FAULT = -2000;
    private static final long LONG_NO_SUCH = 1000000001L;

    private static final int NOTHING_HELD = 0;
    private static final int ONE_HELD = 1;
    private static final int ROW_HELD = 2;

    private final Town now;
    private final Town saved;
    private boolean isSaved;
    /** Towns in mind, one for each flood that may lie ahead of another; the first serves every other thought, too. */
    private final Town[] minds;
    private final Town mind;
    private final Shelf[] shelves;
    /** The most that THINGS from one on can have together while a crowd is taken already: by THING, then by crowd. */
    private final int[] most;
    private final int[] stories;
    private final int[] gains;

    public ToldWhereItWas() {
        Man[] kinds = {new Man(), new Old(), new Liar(), new Servant(),
            new Dowager(), new Pedlar(), new Burglar(), new Silent()};
        now = new Town(kinds);
        saved = new Town(kinds);
        minds = new Town[MOST_FLOODS + 1];
        for (int i = 0; i < minds.length; i++) {
            minds[i] = new Town(kinds);
        }
        mind = minds[0];
        shelves = new Shelf[SHELVES];
        for (int d = 0; d < SHELVES; d++) {
            shelves[d] = new Shelf();
        }
        most = new int[(THINGS + 1) * CROWDS];
        stories = new int[MOST_PEOPLE * THINGS];
        gains = new int[8];
    }

    // ---- the town as told

    public int town(int d) {
        int refusal = rowRefusal(d);
        if (refusal != 0) {
            return refusal;
        }
        Shelf text = shelves[d];
        if (text.sort != 0) {
            return OTHER_KIND;
        }
        int fault = Text.grammarFault(text);
        if (fault >= 0) {
            return GRAMMAR_FAULT - fault;
        }
        mind.takeFrom(now);
        int at = 0;
        int statements = 0;
        while (at < text.size && statements < LONGEST_ROW) {
            if (!Text.obey(text, at, mind)) {
                return SENSE_FAULT - at;
            }
            at = Text.behind(text, at);
            statements++;
        }
        now.takeFrom(mind);
        return statements;
    }

    public int one(int p, int what) {
        if (!now.hasOne(p) || !within(what, 4)) {
            return NO_SUCH;
        }
        switch (what) {
            case 0:
                return now.kind[p];
            case 1:
                return now.figure[p];
            case 2:
                return now.caresFor[p];
            case 3:
                return now.ownedBy(p);
            default:
                return now.lessons(p, now.day + 1);
        }
    }

    public int thing(int t, int what) {
        if (!isThing(t) || !within(what, 2)) {
            return NO_SUCH;
        }
        if (what == 0) {
            return now.truth[t];
        }
        return what == 1 ? now.worth[t] : noneIfNobody(now.owner[t]);
    }

    public int story(int p, int t, int what) {
        if (!now.hasOne(p) || !isThing(t) || !within(what, 1)) {
            return NO_SUCH;
        }
        return what == 0 ? now.knows[p * THINGS + t] : now.tale(p, t);
    }

    public int comes(int d, int cares) {
        if (!isShelf(d) || !isCare(cares)) {
            return NO_SUCH;
        }
        int refusal = oneRefusal(d);
        if (refusal != 0) {
            return refusal;
        }
        Shelf shelf = shelves[d];
        return now.arrive(shelf.kind, shelf.figure, cares) ? now.people - 1 : NO_ROOM;
    }

    public int learns(int p, int t, int fact) {
        if (!now.turnFact(p, t, fact)) {
            return NO_SUCH;
        }
        return now.knows[p * THINGS + t] >> fact & 1;
    }

    public int cares(int p, int t) {
        if (!now.hasOne(p)) {
            return NO_SUCH;
        }
        int old = now.caresFor[p];
        return now.turnTo(p, t) ? old : NO_SUCH;
    }

    public int gives(int t, int p) {
        if (!isThing(t)) {
            return NO_SUCH;
        }
        int old = now.owner[t];
        return now.handOver(t, p) ? noneIfNobody(old) : NO_SUCH;
    }

    public int past(int t, int facts) {
        if (!isThing(t) || !within(facts, ALL_FACTS)) {
            return NO_SUCH;
        }
        int old = now.truth[t];
        now.truth[t] = facts;
        return old;
    }

    public int days(int n) {
        if (n < 1 || n > FARTHEST) {
            return NO_SUCH;
        }
        return now.goOn(n) ? Integer.bitCount(now.ownedThings()) : NOT_SO;
    }

    // ---- days on

    public int ownerThen(int t, int n) {
        if (!isThing(t) || !within(n, FARTHEST)) {
            return NO_SUCH;
        }
        thinkOn(n);
        return noneIfNobody(mind.owner[t]);
    }

    public int storyThen(int p, int t, int n) {
        if (!now.hasOne(p) || !isThing(t) || !within(n, FARTHEST)) {
            return NO_SUCH;
        }
        thinkOn(n);
        return mind.tale(p, t);
    }

    public int ownsThen(int p, int n, int what) {
        if (!now.hasOne(p) || !within(n, FARTHEST) || !within(what, 1)) {
            return NO_SUCH;
        }
        thinkOn(n);
        return what == 0 ? mind.ownedBy(p) : mind.wealth(p);
    }

    public int when(int p, int t) {
        if (!now.hasOne(p) || !isThing(t)) {
            return NO_SUCH;
        }
        mind.takeFrom(now);
        for (int n = 0; n <= FARTHEST; n++) {
            if (mind.owner[t] == p) {
                return n;
            }
            mind.pass();
        }
        return NONE;
    }

    public int loses(int t) {
        if (!isThing(t)) {
            return NO_SUCH;
        }
        if (now.owner[t] == NOBODY) {
            return NONE;
        }
        mind.takeFrom(now);
        for (int n = 0; n <= FARTHEST; n++) {
            if (mind.owner[t] != now.owner[t]) {
                return n;
            }
            mind.pass();
        }
        return NONE;
    }

    // ---- what to look after, whom to ask

    public int lookAfter(int p, int n, int what) {
        if (!now.hasOne(p) || !within(n, FARTHEST) || !within(what, 1)) {
            return NO_SUCH;
        }
        int best = -1;
        int choice = NOBODY;
        for (int i = 0; i <= THINGS; i++) {
            int tried = i < THINGS ? i : NOBODY;
            mind.takeFrom(now);
            mind.caresFor[p] = tried;
            mind.passAll(n);
            int wealth = mind.wealth(p);
            if (wealth > best) {
                best = wealth;
                choice = tried;
            }
        }
        return what == 0 ? choice : best;
    }

    public int win(int p, int t) {
        if (!now.hasOne(p) || !isThing(t)) {
            return NO_SUCH;
        }
        int rival = 0;
        for (int q = 0; q < now.people; q++) {
            if (q != p) {
                rival = Math.max(rival, now.tale(q, t));
            }
        }
        int knows = now.knows[p * THINGS + t];
        for (int more = 0; more <= FACTS; more++) {
            if (now.taleWith(p, t, knows) > rival) {
                return more;
            }
            int lacking = now.truth[t] & ~knows;
            if (lacking == 0) {
                return NONE;
            }
            knows |= lacking & -lacking;
        }
        return NONE;
    }

    public int ask(int p, int t) {
        if (!now.hasOne(p) || !isThing(t)) {
            return NO_SUCH;
        }
        int longest = now.tale(p, t);
        int asked = NONE;
        for (int q = 0; q < now.people; q++) {
            int tale = now.taleWith(p, t, now.knows[p * THINGS + t] | now.knows[q * THINGS + t]);
            if (tale > longest) {
                longest = tale;
                asked = q;
            }
        }
        return asked;
    }

    public int care(int t) {
        if (t < -1 || t >= THINGS) {
            return NO_SUCH;
        }
        noteStories();
        weighCrowds();
        if (t < 0) {
            return most[0];
        }
        int crowd = 0;
        int chosen = NOBODY;
        for (int at = 0; at <= t; at++) {
            chosen = firstCarer(at, crowd);
            if (chosen != NOBODY) {
                crowd |= 1 << chosen;
            }
        }
        return noneIfNobody(chosen);
    }

    public int richest(int what) {
        switch (what) {
            case 0:
                return richestOne();
            case 1:
                return (1 << THINGS) - 1 & ~now.ownedThings();
            case 2:
                return longestTale();
            case 3:
                return stillness();
            default:
                return NO_SUCH;
        }
    }

    public int common(int t, int what) {
        if (!isThing(t) || !within(what, 3)) {
            return NO_SUCH;
        }
        if (what == 3) {
            return rivals(t);
        }
        int all = now.people == 0 ? 0 : ALL_FACTS;
        int some = 0;
        int several = 0;
        for (int p = 0; p < now.people; p++) {
            int knows = now.knows[p * THINGS + t];
            all &= knows;
            several |= some & knows;
            some |= knows;
        }
        if (what == 0) {
            return all;
        }
        return what == 1 ? some & ~several : now.truth[t] & ~some;
    }

    // ---- what kind one is, which past

    public int whatIs(int d, int p, int what) {
        if (!isShelf(d) || !now.hasOne(p) || !within(what, 1)) {
            return NO_SUCH;
        }
        int refusal = rowRefusal(d);
        if (refusal != 0) {
            return refusal;
        }
        int tries = what == 0 ? KINDS : FIGURES;
        int fitting = 0;
        for (int i = 0; i < tries; i++) {
            mind.takeFrom(now);
            if (what == 0) {
                mind.kind[p] = i;
            } else {
                mind.figure[p] = i;
            }
            if (mindTells(shelves[d], p)) {
                fitting |= 1 << i;
            }
        }
        return fitting;
    }

    public int whichPast(int d, int t, int what) {
        if (!isShelf(d) || !isThing(t) || !within(what, 2)) {
            return NO_SUCH;
        }
        int refusal = rowRefusal(d);
        if (refusal != 0) {
            return refusal;
        }
        int fitting = 0;
        int least = NONE;
        int greatest = NONE;
        mind.takeFrom(now);
        for (int facts = 0; facts <= ALL_FACTS; facts++) {
            mind.truth[t] = facts;
            if (mindHasStories(shelves[d], t)) {
                fitting++;
                greatest = facts;
                if (least == NONE) {
                    least = facts;
                }
            }
        }
        if (what == 0) {
            return fitting;
        }
        return what == 1 ? least : greatest;
    }

    public int two(int a, int b, int t, int n) {
        if (!now.hasOne(a) || !now.hasOne(b) || a == b || !isThing(t) || n < 1 || n > 30) {
            return NO_SUCH;
        }
        for (int pair = 0; pair < 4; pair++) {
            int choiceOfA = pair >> 1;
            int choiceOfB = pair & 1;
            mind.takeFrom(now);
            if (choiceOfA == 1) {
                mind.caresFor[a] = t;
            }
            if (choiceOfB == 1) {
                mind.caresFor[b] = t;
            }
            mind.passAll(n);
            gains[pair] = mind.wealth(a) - choiceOfA;
            gains[4 + pair] = mind.wealth(b) - choiceOfB;
        }
        for (int pair = 0; pair < 4; pair++) {
            if (gains[pair] >= gains[pair ^ 2] && gains[4 + pair] >= gains[4 + (pair ^ 1)]) {
                return 10 * (pair >> 1) + (pair & 1);
            }
        }
        return NONE;
    }

    public long floods(int p, int t, int n, int u, int part) {
        if (!now.hasOne(p) || !isThing(t) || !within(n, MOST_FLOODS) || u < 2 || u > 20 || !within(part, 1)) {
            return LONG_NO_SUCH;
        }
        long below = 1;
        for (int i = 0; i < n; i++) {
            below *= u;
        }
        mind.takeFrom(now);
        return partOf(floodWays(minds, 0, n, u, p, t), below, part);
    }

    public long share(int p, int part) {
        if (!now.hasOne(p) || !within(part, 1)) {
            return LONG_NO_SUCH;
        }
        return partOf(now.wealth(p), now.allWorth(), part);
    }

    // ---- told deeds, years by seeds

    public int forged(int d) {
        int refusal = rowRefusal(d);
        if (refusal != 0) {
            return refusal;
        }
        Shelf deed = shelves[d];
        for (int i = 0; i < deed.size; i++) {
            if (i >= THINGS || deed.cells[i] != now.owner[i]) {
                return i;
            }
        }
        return NONE;
    }

    public int judge(int d, int p) {
        if (!isShelf(d) || !now.hasOne(p)) {
            return NO_SUCH;
        }
        int refusal = rowRefusal(d);
        if (refusal != 0) {
            return refusal;
        }
        Shelf told = shelves[d];
        mind.takeFrom(now);
        for (int n = 0; n < told.size; n++) {
            if (!told.agrees(n, Integer.bitCount(mind.ownedBy(p)))) {
                return n;
            }
            mind.pass();
        }
        return NONE;
    }

    public int years(int n, int z, int what) {
        if (n < 1 || n > 20 || !within(what, 1)) {
            return NO_SUCH;
        }
        int seed = z;
        int owned = 0;
        int others = 0;
        for (int year = 0; year < n; year++) {
            seed = drawYear(seed);
            mind.passAll(YEAR);
            owned += Integer.bitCount(mind.ownedThings());
            others += otherOwners();
        }
        return what == 0 ? owned : others;
    }

    // ---- the image, what is told

    public int image() {
        saved.takeFrom(now);
        isSaved = true;
        return now.day;
    }

    public int restore() {
        if (!isSaved) {
            return NOT_SO;
        }
        now.takeFrom(saved);
        return now.day;
    }

    public int count(int what) {
        switch (what) {
            case 0:
                return now.people;
            case 1:
                return now.day;
            case 2:
                return now.ownedThings();
            case 3:
                return now.allWorth();
            case 4:
                return now.allKnown();
            default:
                return NO_SUCH;
        }
    }

    // ---- shelves

    public int keep(int d, int what, int k, int figure) {
        if (!isShelf(d) || !within(what, 1)) {
            return NO_SUCH;
        }
        if (what == 0) {
            shelves[d].holds = NOTHING_HELD;
            return 0;
        }
        if (!within(k, KINDS - 1) || !within(figure, FIGURES - 1)) {
            return NO_SUCH;
        }
        shelves[d].holdOne(k, figure);
        return 0;
    }

    public int row(int d, int sort, int n) {
        if (!isShelf(d) || !within(sort, 2) || n > LONGEST_ROW) {
            return NO_SUCH;
        }
        if (n < 0) {
            return SIZE_BELOW_0;
        }
        shelves[d].holdRow(sort, n);
        return 0;
    }

    public int put(int d, int i, int v) {
        int refusal = rowRefusal(d);
        if (refusal != 0) {
            return refusal;
        }
        Shelf shelf = shelves[d];
        if (!shelf.hasPlaces(i, 1)) {
            return NO_PLACE;
        }
        shelf.cells[i] = shelf.cut(v);
        return 0;
    }

    public long element(int d, int i) throws IllegalArgumentException, IllegalStateException {
        if (!isShelf(d)) {
            throw new IllegalArgumentException("no such shelf");
        }
        Shelf shelf = shelves[d];
        if (shelf.holds != ROW_HELD) {
            throw new IllegalStateException("no row");
        }
        if (!shelf.hasPlaces(i, 1)) {
            throw new IllegalStateException("no such place");
        }
        return shelf.cells[i];
    }

    public int copy(int d, int i, int e, int j, int n) {
        if (!isShelf(d) || !isShelf(e)) {
            return NO_SUCH;
        }
        Shelf from = shelves[d];
        Shelf to = shelves[e];
        if (from.holds == NOTHING_HELD || to.holds == NOTHING_HELD) {
            return HOLDS_NOTHING;
        }
        if (from.holds != ROW_HELD || to.holds != ROW_HELD || from.sort != to.sort) {
            return OTHER_KIND;
        }
        if (!from.hasPlaces(i, n) || !to.hasPlaces(j, n)) {
            return NO_PLACE;
        }
        System.arraycopy(from.cells, i, to.cells, j, n);
        return n;
    }

    public int cost(int d) {
        int refusal = oneRefusal(d);
        if (refusal != 0) {
            return refusal;
        }
        Shelf shelf = shelves[d];
        return now.kinds[shelf.kind].price(shelf.figure);
    }

    public int toss(int d) {
        int refusal = oneRefusal(d);
        if (refusal != 0) {
            return refusal;
        }
        Shelf shelf = shelves[d];
        try {
            now.kinds[shelf.kind].fail(shelf.figure);
        } catch (IllegalStateException failure) {
            return shelf.figure;
        } catch (IllegalArgumentException failure) {
            return 100 + shelf.figure;
        } catch (UnsupportedOperationException failure) {
            return 200 + 2 * shelf.figure;
        }
        return NO_FAILURE;
    }

    // ---- what several calls need

    private static boolean within(int number, int most) {
        return number >= 0 && number <= most;
    }

    private static boolean isThing(int t) {
        return t >= 0 && t < THINGS;
    }

    private static boolean isCare(int t) {
        return isThing(t) || t == NOBODY;
    }

    private static boolean isShelf(int d) {
        return d >= 0 && d < SHELVES;
    }

    private static int noneIfNobody(int p) {
        return p == NOBODY ? NONE : p;
    }

    private int rowRefusal(int d) {
        return holdRefusal(d, ROW_HELD);
    }

    private int oneRefusal(int d) {
        return holdRefusal(d, ONE_HELD);
    }

    private int holdRefusal(int d, int wanted) {
        if (!isShelf(d)) {
            return NO_SUCH;
        }
        int holds = shelves[d].holds;
        if (holds == NOTHING_HELD) {
            return HOLDS_NOTHING;
        }
        return holds == wanted ? 0 : OTHER_KIND;
    }

    private void thinkOn(int n) {
        mind.takeFrom(now);
        mind.passAll(n);
    }

    private void noteStories() {
        for (int p = 0; p < now.people; p++) {
            for (int t = 0; t < THINGS; t++) {
                stories[p * THINGS + t] = now.tale(p, t);
            }
        }
    }

    private void weighCrowds() {
        int crowds = 1 << now.people;
        for (int crowd = 0; crowd < crowds; crowd++) {
            most[THINGS * CROWDS + crowd] = 0;
        }
        for (int t = THINGS - 1; t >= 0; t--) {
            for (int crowd = 0; crowd < crowds; crowd++) {
                int best = most[(t + 1) * CROWDS + crowd];
                for (int p = 0; p < now.people; p++) {
                    if ((crowd >> p & 1) == 0) {
                        best = Math.max(best, mostWith(p, t, crowd));
                    }
                }
                most[t * CROWDS + crowd] = best;
            }
        }
    }

    private int mostWith(int p, int t, int crowd) {
        return stories[p * THINGS + t] + most[(t + 1) * CROWDS + (crowd | 1 << p)];
    }

    private int firstCarer(int t, int crowd) {
        for (int p = 0; p < now.people; p++) {
            if ((crowd >> p & 1) == 0 && mostWith(p, t, crowd) == most[t * CROWDS + crowd]) {
                return p;
            }
        }
        return NOBODY;
    }

    private int richestOne() {
        int best = -1;
        int richest = NONE;
        for (int p = 0; p < now.people; p++) {
            int wealth = now.wealth(p);
            if (wealth > best) {
                best = wealth;
                richest = p;
            }
        }
        return richest;
    }

    private int longestTale() {
        int longest = 0;
        int teller = NONE;
        for (int p = 0; p < now.people; p++) {
            for (int t = 0; t < THINGS; t++) {
                int tale = now.tale(p, t);
                if (tale > longest) {
                    longest = tale;
                    teller = 10 * p + t;
                }
            }
        }
        return teller;
    }

    private int stillness() {
        mind.takeFrom(now);
        int lastChange = 0;
        for (int n = 1; n <= FARTHEST; n++) {
            if (mind.pass()) {
                lastChange = n;
            } else if (n - lastChange == QUIET_DAYS) {
                return lastChange;
            }
        }
        return NONE;
    }

    private int rivals(int t) {
        int twos = 0;
        for (int p = 0; p < now.people; p++) {
            int tale = now.tale(p, t);
            for (int q = p + 1; q < now.people; q++) {
                if (tale > 0 && now.tale(q, t) == tale) {
                    twos++;
                }
            }
        }
        return twos;
    }

    private boolean mindTells(Shelf told, int p) {
        int t = mind.caresFor[p];
        for (int n = 0; n < told.size; n++) {
            if (!told.agrees(n, isThing(t) ? mind.tale(p, t) : 0)) {
                return false;
            }
            mind.pass();
        }
        return true;
    }

    private boolean mindHasStories(Shelf told, int t) {
        if (told.size > mind.people) {
            return false;
        }
        for (int p = 0; p < told.size; p++) {
            if (!told.agrees(p, mind.tale(p, t))) {
                return false;
            }
        }
        return true;
    }

    /** In how many of u to the power of the DAYS left one is the OWNER at last, from the town at this depth on. */
    private static long floodWays(Town[] towns, int depth, int left, int u, int p, int t) {
        Town here = towns[depth];
        if (left <= 0 || depth >= MOST_FLOODS) {
            return here.owner[t] == p ? 1 : 0;
        }
        Town next = towns[depth + 1];
        next.takeFrom(here);
        next.pass();
        long dry = floodWays(towns, depth + 1, left - 1, u, p, t);
        next.takeFrom(here);
        next.flood();
        next.pass();
        return (u - 1) * dry + floodWays(towns, depth + 1, left - 1, u, p, t);
    }

    private static long partOf(long above, long below, int part) {
        long a = above;
        long b = below;
        for (int i = 0; i < 200 && b > 0; i++) {
            long rest = a % b;
            a = b;
            b = rest;
        }
        if (a <= 0) {
            return part == 0 ? 0 : 1;
        }
        return part == 0 ? above / a : below / a;
    }

    /** Puts a drawn year's start in mind and answers the seed behind its draws. */
    private int drawYear(int z) {
        mind.takeFrom(now);
        int seed = z;
        for (int t = 0; t < THINGS; t++) {
            seed = nextSeed(seed);
            mind.truth[t] = draw(seed) % (ALL_FACTS + 1);
        }
        for (int p = 0; p < mind.people; p++) {
            seed = nextSeed(seed);
            mind.caresFor[p] = draw(seed) % THINGS;
        }
        return seed;
    }

    private static int nextSeed(int z) {
        return z * 1103515245 + 12345;
    }

    private static int draw(int z) {
        return (z & WITHOUT_SIGN) / 65536;
    }

    private int otherOwners() {
        int others = 0;
        for (int t = 0; t < THINGS; t++) {
            if (mind.owner[t] != NOBODY && mind.owner[t] != now.owner[t]) {
                others++;
            }
        }
        return others;
    }

    // ---- kinds, each under the one it extends; facts come and go as bits

    private static class Man {
        /** How long his story is by TRUE facts that he knows and FALSE ones that he knows. */
        int tells(int figure, int trueOnes, int falseOnes) {
            return Integer.bitCount(trueOnes);
        }

        int lessons(int figure, int day, boolean owns) {
            return 1;
        }

        /** The bit of the fact that he learns next, 0 if none is left. */
        int nextFact(int truth, int knows) {
            int lacking = truth & ~knows;
            return lacking & -lacking;
        }

        boolean forgets(int day) {
            return false;
        }

        int price(int figure) {
            return 2;
        }

        /** Throws his failure; returns if he has none. */
        void fail(int figure) {
            if (figure != 0) {
                throw new IllegalStateException();
            }
        }
    }

    private static class Old extends Man {
        @Override
        int tells(int figure, int trueOnes, int falseOnes) {
            return trueOnes == 0 ? 0 : Integer.bitCount(trueOnes) + figure / 3;
        }

        @Override
        int lessons(int figure, int day, boolean owns) {
            return day % 2 == 0 ? 1 : 0;
        }

        @Override
        boolean forgets(int day) {
            return day % 7 == 0;
        }

        @Override
        int price(int figure) {
            return 1;
        }

        @Override
        void fail(int figure) {
            // OLD ones, and all under OLD, have no failure.
        }
    }

    private static class Liar extends Man {
        @Override
        int tells(int figure, int trueOnes, int falseOnes) {
            return Integer.bitCount(trueOnes) + Integer.bitCount(falseOnes) / 2;
        }

        @Override
        int lessons(int figure, int day, boolean owns) {
            return super.lessons(figure, day, owns) + 1;
        }

        @Override
        int nextFact(int truth, int knows) {
            return super.nextFact(ALL_FACTS, knows);
        }

        @Override
        int price(int figure) {
            return super.price(figure) + figure;
        }

        @Override
        void fail(int figure) {
            if (figure != 0) {
                throw new IllegalArgumentException();
            }
        }
    }

    private static class Servant extends Man {
        @Override
        int tells(int figure, int trueOnes, int falseOnes) {
            return Integer.bitCount(trueOnes) + Integer.bitCount(trueOnes & LATE_FACTS);
        }

        @Override
        int lessons(int figure, int day, boolean owns) {
            return owns ? 1 : 2;
        }

        @Override
        int price(int figure) {
            return 3;
        }
    }

    private static final class Dowager extends Old {
        @Override
        int tells(int figure, int trueOnes, int falseOnes) {
            return trueOnes == 0 ? 0 : super.tells(figure, trueOnes, falseOnes) + 2;
        }

        @Override
        int price(int figure) {
            return super.price(figure) + 6;
        }
    }

    private static final class Pedlar extends Liar {
        @Override
        int lessons(int figure, int day, boolean owns) {
            return figure / 2;
        }

        @Override
        int price(int figure) {
            return 2 * super.price(figure);
        }
    }

    private static final class Burglar extends Servant {
        @Override
        int tells(int figure, int trueOnes, int falseOnes) {
            return Math.max(0, super.tells(figure, trueOnes, falseOnes) - 1);
        }

        @Override
        int lessons(int figure, int day, boolean owns) {
            return 3;
        }

        @Override
        int price(int figure) {
            return 0;
        }

        @Override
        void fail(int figure) {
            if (figure != 0) {
                throw new UnsupportedOperationException();
            }
        }
    }

    private static final class Silent extends Old {
        @Override
        int tells(int figure, int trueOnes, int falseOnes) {
            return 0;
        }

        @Override
        int lessons(int figure, int day, boolean owns) {
            return 0;
        }
    }

    /** All that there is but shelves: as it is, as it was when the image was taken, or as it is thought of. */
    private static final class Town {
        final Man[] kinds;
        int people;
        int day;
        final int[] truth;
        final int[] worth;
        final int[] owner;
        final int[] kind;
        final int[] figure;
        final int[] caresFor;
        /** By one, then by THING. */
        final int[] knows;

        Town(Man[] kinds) {
            this.kinds = kinds;
            truth = new int[THINGS];
            worth = new int[THINGS];
            owner = new int[THINGS];
            kind = new int[MOST_PEOPLE];
            figure = new int[MOST_PEOPLE];
            caresFor = new int[MOST_PEOPLE];
            knows = new int[MOST_PEOPLE * THINGS];
            Arrays.fill(truth, ALL_FACTS);
            Arrays.fill(worth, 1);
            Arrays.fill(owner, NOBODY);
        }

        void takeFrom(Town other) {
            people = other.people;
            day = other.day;
            System.arraycopy(other.truth, 0, truth, 0, THINGS);
            System.arraycopy(other.worth, 0, worth, 0, THINGS);
            System.arraycopy(other.owner, 0, owner, 0, THINGS);
            System.arraycopy(other.kind, 0, kind, 0, MOST_PEOPLE);
            System.arraycopy(other.figure, 0, figure, 0, MOST_PEOPLE);
            System.arraycopy(other.caresFor, 0, caresFor, 0, MOST_PEOPLE);
            System.arraycopy(other.knows, 0, knows, 0, MOST_PEOPLE * THINGS);
        }

        boolean hasOne(int p) {
            return p >= 0 && p < people;
        }

        // What changes a town answers whether it could be done; if not, nothing has changed.

        boolean remake(int t, int facts, int newWorth) {
            if (!isThing(t) || !within(facts, ALL_FACTS) || !within(newWorth, 9)) {
                return false;
            }
            truth[t] = facts;
            worth[t] = newWorth;
            return true;
        }

        /** Nobody has had his number yet, or the image has taken it back: so he knows nothing. */
        boolean arrive(int newKind, int newFigure, int care) {
            if (people >= MOST_PEOPLE || !within(newKind, KINDS - 1)
                || !within(newFigure, FIGURES - 1) || !isCare(care)) {
                return false;
            }
            kind[people] = newKind;
            figure[people] = newFigure;
            caresFor[people] = care;
            people++;
            return true;
        }

        boolean turnFact(int p, int t, int fact) {
            if (!hasOne(p) || !isThing(t) || !within(fact, FACTS - 1)) {
                return false;
            }
            knows[p * THINGS + t] ^= 1 << fact;
            return true;
        }

        boolean handOver(int t, int p) {
            if (!isThing(t) || !hasOne(p) && p != NOBODY) {
                return false;
            }
            owner[t] = p;
            return true;
        }

        boolean turnTo(int p, int t) {
            if (!hasOne(p) || !isCare(t)) {
                return false;
            }
            caresFor[p] = t;
            return true;
        }

        boolean goOn(int n) {
            if (n < 1 || n > FARTHEST || day + n > LAST_DAY) {
                return false;
            }
            for (int i = 0; i < n; i++) {
                pass();
            }
            return true;
        }

        // What is told of a town.

        int tale(int p, int t) {
            return taleWith(p, t, knows[p * THINGS + t]);
        }

        /** How long the story of one would be, if these facts were all that he knew. */
        int taleWith(int p, int t, int facts) {
            return kinds[kind[p]].tells(figure[p], facts & truth[t], facts & ~truth[t]);
        }

        /** How many facts one learns on a DAY. */
        int lessons(int p, int onDay) {
            int t = caresFor[p];
            return isThing(t) ? kinds[kind[p]].lessons(figure[p], onDay, owner[t] == p) : 0;
        }

        int ownedBy(int p) {
            int things = 0;
            for (int t = 0; t < THINGS; t++) {
                if (owner[t] == p) {
                    things |= 1 << t;
                }
            }
            return things;
        }

        int ownedThings() {
            return (1 << THINGS) - 1 & ~ownedBy(NOBODY);
        }

        int wealth(int p) {
            int sum = 0;
            for (int t = 0; t < THINGS; t++) {
                if (owner[t] == p) {
                    sum += worth[t];
                }
            }
            return sum;
        }

        int allWorth() {
            int sum = 0;
            for (int t = 0; t < THINGS; t++) {
                sum += worth[t];
            }
            return sum;
        }

        int allKnown() {
            int sum = 0;
            for (int i = 0; i < people * THINGS; i++) {
                sum += Integer.bitCount(knows[i]);
            }
            return sum;
        }

        // How days go; in mind DAY may pass the last one.

        void passAll(int n) {
            for (int i = 0; i < n; i++) {
                pass();
            }
        }

        /** One DAY; answers whether any OWNER is another one now. */
        boolean pass() {
            day++;
            for (int p = 0; p < people; p++) {
                study(p);
                if (kinds[kind[p]].forgets(day)) {
                    forgetLatest(p);
                }
            }
            boolean changed = false;
            for (int t = 0; t < THINGS; t++) {
                changed |= settle(t);
            }
            return changed;
        }

        private void study(int p) {
            int t = caresFor[p];
            int times = lessons(p, day);
            for (int i = 0; i < times; i++) {
                knows[p * THINGS + t] |= kinds[kind[p]].nextFact(truth[t], knows[p * THINGS + t]);
            }
        }

        private void forgetLatest(int p) {
            for (int t = 0; t < THINGS; t++) {
                int facts = knows[p * THINGS + t];
                int upToGreatest = facts | facts >> 1;
                upToGreatest |= upToGreatest >> 2;
                upToGreatest |= upToGreatest >> 4;
                upToGreatest |= upToGreatest >> 8;
                knows[p * THINGS + t] = facts & upToGreatest >> 1;
            }
        }

        /** All forget the least fact that they know of each THING. */
        void flood() {
            for (int i = 0; i < people * THINGS; i++) {
                knows[i] &= knows[i] - 1;
            }
        }

        /** Asks the kinds themselves, as tale would, because calls may not stand open too deep. */
        private boolean settle(int t) {
            int ownersTale = 0;
            int longest = 0;
            int teller = NOBODY;
            for (int p = 0; p < people; p++) {
                int facts = knows[p * THINGS + t];
                int tale = kinds[kind[p]].tells(figure[p], facts & truth[t], facts & ~truth[t]);
                if (p == owner[t]) {
                    ownersTale = tale;
                } else if (tale > longest) {
                    longest = tale;
                    teller = p;
                }
            }
            if (longest <= ownersTale) {
                return false;
            }
            owner[t] = teller;
            return true;
        }
    }

    /** What one shelf holds; its cells are made once and serve every row that comes to lie there. */
    private static final class Shelf {
        int holds;
        int kind;
        int figure;
        int sort;
        int size;
        final int[] cells;

        Shelf() {
            cells = new int[LONGEST_ROW];
        }

        void holdOne(int newKind, int newFigure) {
            holds = ONE_HELD;
            kind = newKind;
            figure = newFigure;
        }

        void holdRow(int newSort, int newSize) {
            holds = ROW_HELD;
            sort = newSort;
            size = newSize;
            Arrays.fill(cells, 0);
        }

        /** Whether n places from one on are there; told so that no sum can wrap round. */
        boolean hasPlaces(int from, int n) {
            return from >= 0 && n >= 0 && n <= size && from <= size - n;
        }

        int cut(int v) {
            if (sort == 0) {
                return (byte) v;
            }
            return sort == 1 ? (short) v : v;
        }

        /** Whether element i is this number or the least of its sort, which is skipped. */
        boolean agrees(int i, int number) {
            return cells[i] == number || cells[i] == leastNumber();
        }

        private int leastNumber() {
            if (sort == 0) {
                return LEAST_BYTE;
            }
            return sort == 1 ? LEAST_SHORT : LEAST_INT;
        }
    }

    /** Reading the text of a town from a row of bytes. */
    private static final class Text {
        private Text() {
        }

        /** How many digits stand behind a statement's letter; -1 if it is none. */
        private static int digitsOf(int letter) {
            switch (letter) {
                case 't':
                    return 6;
                case 'l':
                    return 4;
                case 'p':
                    return 3;
                case 'o':
                case 'c':
                case 'd':
                    return 2;
                default:
                    return -1;
            }
        }

        /** The place of the first byte with which no town can go on, or -1. */
        static int grammarFault(Shelf text) {
            int at = 0;
            for (int i = 0; i < LONGEST_ROW; i++) {
                int fault = statementFault(text, at);
                if (fault >= 0) {
                    return fault;
                }
                at = behind(text, at);
                if (at >= text.size) {
                    return -1;
                }
            }
            return -1;
        }

        private static int statementFault(Shelf text, int at) {
            if (at >= text.size || digitsOf(text.cells[at]) < 0) {
                return at;
            }
            int end = at + 1 + digitsOf(text.cells[at]);
            for (int i = at + 1; i < end; i++) {
                if (i >= text.size || text.cells[i] < '0' || text.cells[i] > '9') {
                    return i;
                }
            }
            return end >= text.size || text.cells[end] != ';' ? end : -1;
        }

        /** The place behind the statement that stands at a place; always further on. */
        static int behind(Shelf text, int at) {
            return at + 2 + Math.max(0, digitsOf(text.cells[at]));
        }

        /** Does the statement at a place to a town; answers whether it could be done. */
        static boolean obey(Shelf text, int at, Town town) {
            int first = number(text, at + 1, 1);
            int second = number(text, at + 2, 1);
            switch (text.cells[at]) {
                case 't':
                    return town.remake(first, number(text, at + 2, 4), number(text, at + 6, 1));
                case 'p':
                    return town.arrive(first, second, number(text, at + 3, 1));
                case 'l':
                    return town.turnFact(first, second, number(text, at + 3, 2));
                case 'o':
                    return town.handOver(first, second);
                case 'c':
                    return town.turnTo(first, second);
                case 'd':
                    return town.goOn(number(text, at + 1, 2));
                default:
                    return false;
            }
        }

        private static int number(Shelf text, int at, int digits) {
            int sum = 0;
            for (int i = at; i < at + digits && i < text.size; i++) {
                sum = 10 * sum + text.cells[i] - '0';
            }
            return sum;
        }
    }
}
