import java.util.ArrayList;
import java.util.List;
import java.util.Random;

/** Runs of drawn calls, each answered as SlowTown answers it. The draws have fixed seeds. */
public final class SecondTellingTest {
    private static final int RUNS = 6000;
    /** An object is used for at most 512 calls: what is left is enough for a last row, a last call and a last look. */
    private static final int CALLS = 512 - 200;
    private static final int CALL_KINDS = 46;

    private final ToldWhereItWas fast = new ToldWhereItWas();
    private final SlowTown slow = new SlowTown();
    private final Random random;
    private final List<String> calls = new ArrayList<>();
    private String call;
    private int spent = 0;

    private SecondTellingTest(long seed) {
        random = new Random(seed);
    }

    public static void main(String[] args) {
        for (int run = 0; run < RUNS; run++) {
            if (!new SecondTellingTest(run).fits()) {
                System.exit(1);
            }
        }
    }

    private boolean fits() {
        if (random.nextInt(6) == 0) {
            beginLate();
        }
        while (spent < CALLS) {
            if (!step()) {
                return false;
            }
        }
        return same() || report("what there is then is not the same");
    }

    /** So that some runs come to the last DAY. */
    private void beginLate() {
        for (int i = 0; i < 16; i++) {
            calls.add("days(60)");
            fast.days(60);
            slow.days(60);
            spent++;
        }
    }

    private boolean report(String what) {
        for (String line : calls) {
            System.out.println(line);
        }
        System.out.println("the last one: " + what);
        return false;
    }

    // ---- numbers, mostly as told, sometimes not

    private int some(int from, int to) {
        int dice = random.nextInt(60);
        if (dice == 0) {
            return from - 1;
        }
        if (dice == 1) {
            return to + 1;
        }
        if (dice == 2) {
            int[] far = {Integer.MIN_VALUE, Integer.MAX_VALUE, -9, 9, 1000};
            return far[random.nextInt(far.length)];
        }
        return from + random.nextInt(to - from + 1);
    }

    private int thing() {
        return some(0, 4);
    }

    private int thingOr9() {
        return random.nextInt(6) == 0 ? 9 : thing();
    }

    private int onePerson() {
        return some(0, Math.max(0, slow.s.people.size() - 1));
    }

    private int place() {
        return some(0, 7);
    }

    private int daysOn() {
        return random.nextInt(3) == 0 ? some(0, 60) : some(0, 12);
    }

    // ---- one call

    private boolean step() {
        int k = random.nextInt(CALL_KINDS);
        long seed = random.nextLong();
        random.setSeed(seed);
        long got = answer(k, true);
        random.setSeed(seed);
        long want = answer(k, false);
        calls.add(call + " = " + got);
        spent++;
        return got == want || report("due is " + want);
    }

    private boolean same() {
        boolean same = true;
        for (int what = 0; what < 5; what++) {
            same &= fast.count(what) == slow.count(what);
        }
        for (int t = 0; t < 5; t++) {
            for (int what = 0; what < 3; what++) {
                same &= fast.thing(t, what) == slow.thing(t, what);
            }
            for (int p = 0; p < slow.s.people.size(); p++) {
                same &= fast.story(p, t, 0) == slow.story(p, t, 0);
                same &= fast.one(p, t) == slow.one(p, t);
            }
        }
        return same;
    }

    private long answer(int k, boolean f) {
        if (k < 12) {
            return townAnswer(k, f);
        }
        if (k < 23) {
            return thoughtAnswer(k, f);
        }
        return k < 33 ? toldAnswer(k, f) : shelfAnswer(k, f);
    }

    private long townAnswer(int k, boolean f) {
        switch (k) {
            case 0: return text(f);
            case 1: { int p = onePerson(), w = some(0, 4); say("one", p, w); return f ? fast.one(p, w) : slow.one(p, w); }
            case 2: { int t = thing(), w = some(0, 2); say("thing", t, w); return f ? fast.thing(t, w) : slow.thing(t, w); }
            case 3: { int p = onePerson(), t = thing(), w = some(0, 1); say("story", p, t, w);
                return f ? fast.story(p, t, w) : slow.story(p, t, w); }
            case 4: { int d = place(), c = thingOr9(); say("comes", d, c); return f ? fast.comes(d, c) : slow.comes(d, c); }
            case 5:
            case 6: { int p = onePerson(), t = thing(), a = some(0, 11); say("learns", p, t, a);
                return f ? fast.learns(p, t, a) : slow.learns(p, t, a); }
            case 7: { int p = onePerson(), t = thingOr9(); say("cares", p, t); return f ? fast.cares(p, t) : slow.cares(p, t); }
            case 8: { int t = thing(), p = random.nextInt(5) == 0 ? 9 : onePerson(); say("gives", t, p);
                return f ? fast.gives(t, p) : slow.gives(t, p); }
            case 9: { int t = thing(), a = some(0, 4095); say("past", t, a); return f ? fast.past(t, a) : slow.past(t, a); }
            default: { int n = random.nextInt(4) == 0 ? some(1, 60) : some(1, 9); say("days", n);
                return f ? fast.days(n) : slow.days(n); }
        }
    }

    private long thoughtAnswer(int k, boolean f) {
        switch (k) {
            case 12: { int t = thing(), n = daysOn(); say("ownerThen", t, n); return f ? fast.ownerThen(t, n) : slow.ownerThen(t, n); }
            case 13: { int p = onePerson(), t = thing(), n = daysOn(); say("storyThen", p, t, n);
                return f ? fast.storyThen(p, t, n) : slow.storyThen(p, t, n); }
            case 14: { int p = onePerson(), n = daysOn(), w = some(0, 1); say("ownsThen", p, n, w);
                return f ? fast.ownsThen(p, n, w) : slow.ownsThen(p, n, w); }
            case 15: { int p = onePerson(), t = thing(); say("when", p, t); return f ? fast.when(p, t) : slow.when(p, t); }
            case 16: { int t = thing(); say("loses", t); return f ? fast.loses(t) : slow.loses(t); }
            case 17: { int p = onePerson(), n = daysOn(), w = some(0, 1); say("lookAfter", p, n, w);
                return f ? fast.lookAfter(p, n, w) : slow.lookAfter(p, n, w); }
            case 18: { int p = onePerson(), t = thing(); say("win", p, t); return f ? fast.win(p, t) : slow.win(p, t); }
            case 19: { int p = onePerson(), t = thing(); say("ask", p, t); return f ? fast.ask(p, t) : slow.ask(p, t); }
            case 20: { int t = some(-1, 4); say("care", t); return f ? fast.care(t) : slow.care(t); }
            case 21: { int w = some(0, 3); say("richest", w); return f ? fast.richest(w) : slow.richest(w); }
            default: { int t = thing(), w = some(0, 3); say("common", t, w); return f ? fast.common(t, w) : slow.common(t, w); }
        }
    }

    private long toldAnswer(int k, boolean f) {
        switch (k) {
            case 23: { int d = place(), p = onePerson(), w = some(0, 1); storiesOnShelf(d, p, f); say("whatIs", d, p, w);
                return f ? fast.whatIs(d, p, w) : slow.whatIs(d, p, w); }
            case 24: { int d = place(), t = thing(), w = some(0, 2); talesOnShelf(d, t, f); say("whichPast", d, t, w);
                return f ? fast.whichPast(d, t, w) : slow.whichPast(d, t, w); }
            case 25: { int a = onePerson(), b = onePerson(), t = thing(), n = some(1, 30); say("two", a, b, t, n);
                return f ? fast.two(a, b, t, n) : slow.two(a, b, t, n); }
            case 26: { int p = onePerson(), t = thing(), n = some(0, 7), u = some(2, 20), w = some(0, 1); say("floods", p, t, n, u, w);
                return f ? fast.floods(p, t, n, u, w) : slow.floods(p, t, n, u, w); }
            case 27: { int p = onePerson(), w = some(0, 1); say("share", p, w); return f ? fast.share(p, w) : slow.share(p, w); }
            case 28: { int d = place(); ownersOnShelf(d, f); say("forged", d); return f ? fast.forged(d) : slow.forged(d); }
            case 29: { int d = place(), p = onePerson(); countsOnShelf(d, p, f); say("judge", d, p);
                return f ? fast.judge(d, p) : slow.judge(d, p); }
            case 30: { int n = some(1, 20), z = random.nextInt(), w = some(0, 1); say("years", n, z, w);
                return f ? fast.years(n, z, w) : slow.years(n, z, w); }
            case 31: say("image"); return f ? fast.image() : slow.image();
            default: say("restore"); return f ? fast.restore() : slow.restore();
        }
    }

    private long shelfAnswer(int k, boolean f) {
        switch (k) {
            case 33: { int w = some(0, 4); say("count", w); return f ? fast.count(w) : slow.count(w); }
            case 34:
            case 35:
            case 36: { int d = place(), w = random.nextInt(5) == 0 ? 0 : some(1, 1), a = some(0, 7), b = some(0, 9); say("keep", d, w, a, b);
                return f ? fast.keep(d, w, a, b) : slow.keep(d, w, a, b); }
            case 37: { int d = place(), a = some(0, 2), n = some(0, random.nextBoolean() ? 9 : 100); say("row", d, a, n);
                return f ? fast.row(d, a, n) : slow.row(d, a, n); }
            case 38:
            case 39: { int d = place(), i = some(0, 9), v = random.nextBoolean() ? random.nextInt() : random.nextInt(9);
                say("put", d, i, v); return f ? fast.put(d, i, v) : slow.put(d, i, v); }
            case 40:
            case 41: { int d = place(), i = some(0, 9); say("element", d, i); return element(d, i, f); }
            case 42:
            case 43: { int d = place(), i = some(0, 4), e = place(), j = some(0, 4), n = some(0, 9); say("copy", d, i, e, j, n);
                return f ? fast.copy(d, i, e, j, n) : slow.copy(d, i, e, j, n); }
            case 44: { int d = place(); say("cost", d); return f ? fast.cost(d) : slow.cost(d); }
            default: { int d = place(); say("toss", d); return f ? fast.toss(d) : slow.toss(d); }
        }
    }

    private long element(int d, int i, boolean f) {
        try {
            return f ? fast.element(d, i) : slow.element(d, i);
        } catch (IllegalArgumentException e) {
            return Long.MIN_VALUE;
        } catch (IllegalStateException e) {
            return Long.MAX_VALUE;
        }
    }

    private void say(String name, int... numbers) {
        StringBuilder b = new StringBuilder(name).append('(');
        for (int i = 0; i < numbers.length; i++) {
            b.append(i == 0 ? "" : ", ").append(numbers[i]);
        }
        call = b.append(')').toString();
    }

    // ---- rows that are nearly so, so that what they tell is not always refused

    private void onShelf(int d, int sort, int[] elements, boolean f) {
        if (f) {
            spent += 1 + elements.length;
            fast.row(d, sort, elements.length);
        } else {
            slow.row(d, sort, elements.length);
        }
        StringBuilder b = new StringBuilder();
        for (int i = 0; i < elements.length; i++) {
            int v = elements[i];
            b.append(' ').append(v);
            if (f) {
                fast.put(d, i, v);
            } else {
                slow.put(d, i, v);
            }
        }
        if (f) {
            calls.add("row " + d + " of sort " + sort + " with" + b);
        }
    }

    /** Takes care that the second telling draws the same numbers, for it has no row of its own to be looked at. */
    private int[] blurred(int sort, int[] elements) {
        int[] least = {-128, -32768, Integer.MIN_VALUE};
        int changes = random.nextInt(3);
        for (int i = 0; i < elements.length; i++) {
            int dice = random.nextInt(12);
            if (dice < 3) {
                elements[i] = least[sort];
            } else if (dice == 3 && changes > 1) {
                elements[i] += random.nextInt(3) - 1;
            }
        }
        return elements;
    }

    private void storiesOnShelf(int d, int p, boolean f) {
        if (random.nextInt(6) == 0 || p < 0 || p >= slow.s.people.size()) {
            return;
        }
        int sort = random.nextInt(3);
        int[] told = new int[random.nextInt(6) == 0 ? random.nextInt(101) : random.nextInt(9)];
        SlowTown.State x = slow.s.twin();
        if (random.nextBoolean()) {
            x.people.get(p).kind = random.nextInt(8);
        }
        for (int i = 0; i < told.length; i++) {
            int t = x.people.get(p).cares;
            told[i] = t == 9 ? 0 : x.story(p, t);
            x.oneDay();
        }
        onShelf(d, sort, blurred(sort, told), f);
    }

    private void talesOnShelf(int d, int t, boolean f) {
        if (random.nextInt(6) == 0 || t < 0 || t > 4) {
            return;
        }
        int sort = random.nextInt(3);
        int[] told = new int[random.nextInt(slow.s.people.size() + (random.nextInt(5) == 0 ? 2 : 1))];
        SlowTown.State x = slow.s.twin();
        x.past[t] = random.nextInt(4096);
        for (int i = 0; i < told.length && i < x.people.size(); i++) {
            told[i] = x.story(i, t);
        }
        onShelf(d, sort, blurred(sort, told), f);
    }

    private void ownersOnShelf(int d, boolean f) {
        if (random.nextInt(6) == 0) {
            return;
        }
        int[] told = new int[random.nextInt(7)];
        for (int i = 0; i < told.length; i++) {
            told[i] = i < 5 ? slow.s.owner[i] : 9;
            told[i] += random.nextInt(12) == 0 ? 1 : 0;
        }
        onShelf(d, random.nextInt(3), told, f);
    }

    private void countsOnShelf(int d, int p, boolean f) {
        if (random.nextInt(6) == 0 || p < 0 || p >= slow.s.people.size()) {
            return;
        }
        int sort = random.nextInt(3);
        int[] told = new int[random.nextInt(6) == 0 ? random.nextInt(101) : random.nextInt(15)];
        SlowTown.State x = slow.s.twin();
        for (int i = 0; i < told.length; i++) {
            told[i] = Integer.bitCount(x.owns(p));
            x.oneDay();
        }
        onShelf(d, sort, blurred(sort, told), f);
    }

    private long text(boolean f) {
        StringBuilder b = new StringBuilder();
        int statements = random.nextInt(9);
        for (int i = 0; i < statements; i++) {
            b.append(statement());
        }
        if (b.length() > 0 && random.nextInt(8) == 0) {
            b.setCharAt(random.nextInt(b.length()), "tplocd;059x".charAt(random.nextInt(11)));
        }
        if (b.length() > 0 && random.nextInt(12) == 0) {
            b.setLength(random.nextInt(b.length()));
        }
        int[] told = new int[Math.min(100, b.length())];
        for (int i = 0; i < told.length; i++) {
            told[i] = b.charAt(i);
        }
        int d = place();
        onShelf(d, random.nextInt(20) == 0 ? 1 : 0, told, f);
        call = "town(" + d + ") of " + b;
        return f ? fast.town(d) : slow.town(d);
    }

    private int digit(int below) {
        return random.nextInt(40) == 0 ? random.nextInt(10) : random.nextInt(below);
    }

    private String statement() {
        int dice = random.nextInt(7);
        int people = Math.max(1, Math.min(7, slow.s.people.size() + 1));
        switch (dice) {
            case 0: return String.format("t%d%04d%d;", digit(5), random.nextInt(random.nextInt(30) == 0 ? 9999 : 4096), digit(10));
            case 1: return String.format("p%d%d%d;", digit(8), digit(10), random.nextInt(6) == 0 ? 9 : digit(5));
            case 2:
            case 3: return String.format("l%d%d%02d;", digit(people), digit(5), random.nextInt(random.nextInt(30) == 0 ? 99 : 12));
            case 4: return String.format("o%d%d;", digit(5), random.nextInt(4) == 0 ? 9 : digit(people));
            case 5: return String.format("c%d%d;", digit(people), random.nextInt(6) == 0 ? 9 : digit(5));
            default: return String.format("d%02d;", random.nextInt(30) == 0 ? random.nextInt(99) : 1 + random.nextInt(9));
        }
    }
}
