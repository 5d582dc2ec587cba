/** The boundary cases of promises 12 to 22: days on in mind, what to look after, whom to ask. */
public final class MindBoundaryTest {
    public static void main(String[] args) {
        Boundary.main(MindBoundaryTest.class, 12, 22);
    }

    private static void told(String words) {
        Boundary.told(words);
    }

    private static void due(String call, long got, long want) {
        Boundary.due(call, got, want);
    }

    private static ToldWhereItWas townOf(String text) {
        return Boundary.townOf(text);
    }

    // ---- towns that several tests look at

    /**
     * An OLD one who OWNS THING 0 and KNOWS its FACTS 0 .. 8, and a MAN who KNOWS FACT 0: the OLD one FORGETS the last
     * of them on DAY 63, and it is the MAN's from then on.
     */
    private static ToldWhereItWas lostOnDay63(int day) {
        ToldWhereItWas x = Boundary.townOnDay(day, "p109;p009;o00;l1000;");
        Boundary.teach(x, 0, 0, 0, 8);
        return x;
    }

    /** On DAY 999 an OLD one has a FACT of THING 0, until DAY 1001, and a MAN as long a STORY. */
    private static ToldWhereItWas lostOnDay1001() {
        return Boundary.townOnDay(999, "p109;p009;o00;l0000;l1000;");
    }

    /** One who CARES for THING 0 and OWNS it from DAY 1 on, and one who never has anything. */
    private static ToldWhereItWas carerAndIdler() {
        return townOf("p000;p009;");
    }

    // ---- promise 12

    static void promise12_noSuchThing() {
        told("The OWNER n DAYS on; -4. -1.");
        ToldWhereItWas x = townOf("p000;p004;");
        due("ownerThen(0, 1)", x.ownerThen(0, 1), 0);
        due("ownerThen(4, 1)", x.ownerThen(4, 1), 1);
        for (int t : Boundary.outside(0, 4)) {
            due("ownerThen(" + t + ", 1)", x.ownerThen(t, 1), -1);
        }
    }

    static void promise12_daysOutOfRange() {
        told("In mind, n DAYS on (0 .. 60)");
        ToldWhereItWas x = lostOnDay63(3);
        due("ownerThen(0, 0)", x.ownerThen(0, 0), 0);
        due("ownerThen(0, 59)", x.ownerThen(0, 59), 0);
        due("ownerThen(0, 60)", x.ownerThen(0, 60), 1);
        for (int n : Boundary.outside(0, 60)) {
            due("ownerThen(0, " + n + ")", x.ownerThen(0, n), -1);
        }
    }

    static void promise12_nobody() {
        told("the OWNER of a THING (-4)");
        due("ownerThen(0, 60) where nobody is", new ToldWhereItWas().ownerThen(0, 60), -4);
        due("ownerThen(1, 60)", carerAndIdler().ownerThen(1, 60), -4);
        due("ownerThen(0, 0)", carerAndIdler().ownerThen(0, 0), -4);
    }

    static void promise12_theLastOfSeven() {
        told("PEOPLE 0 .. 6 as they come (7 at most)");
        ToldWhereItWas x = Boundary.men(7);
        x.cares(6, 0);
        due("ownerThen(0, 1)", x.ownerThen(0, 1), 6);
    }

    static void promise12_dayMayPass999() {
        told("In mind, n DAYS on (0 .. 60) (DAY may pass 999 there)");
        ToldWhereItWas x = lostOnDay1001();
        due("ownerThen(0, 1) on DAY 999", x.ownerThen(0, 1), 0);
        due("ownerThen(0, 2) on DAY 999", x.ownerThen(0, 2), 1);
        due("ownerThen(0, 60) on DAY 999", x.ownerThen(0, 60), 1);
    }

    static void promise12_inMindAlone() {
        told("In mind, n DAYS on (0 .. 60)");
        ToldWhereItWas x = townOf("p000;p101;o01;");
        String before = Boundary.picture(x);
        due("ownerThen(0, 60)", x.ownerThen(0, 60), 0);
        Boundary.unchanged(x, before);
    }

    // ---- promise 13

    static void promise13_noSuchOne() {
        told("STORY n DAYS on. -1.");
        due("storyThen(0, 0, 0) of nobody", new ToldWhereItWas().storyThen(0, 0, 0), -1);
        ToldWhereItWas x = carerAndIdler();
        for (int p : Boundary.outside(0, 1)) {
            due("storyThen(" + p + ", 0, 1)", x.storyThen(p, 0, 1), -1);
        }
        due("storyThen(1, 0, 1)", x.storyThen(1, 0, 1), 0);
    }

    static void promise13_noSuchThing() {
        told("STORY n DAYS on. -1.");
        ToldWhereItWas x = townOf("p000;p004;");
        for (int t : Boundary.outside(0, 4)) {
            due("storyThen(0, " + t + ", 1)", x.storyThen(0, t, 1), -1);
        }
        due("storyThen(0, 0, 1)", x.storyThen(0, 0, 1), 1);
        due("storyThen(1, 4, 1)", x.storyThen(1, 4, 1), 1);
    }

    static void promise13_daysOutOfRange() {
        told("In mind, n DAYS on (0 .. 60)");
        ToldWhereItWas x = lostOnDay63(3);
        due("storyThen(0, 0, 0)", x.storyThen(0, 0, 0), 9);
        due("storyThen(0, 0, 3)", x.storyThen(0, 0, 3), 9);
        due("storyThen(0, 0, 4)", x.storyThen(0, 0, 4), 8);
        due("storyThen(0, 0, 59)", x.storyThen(0, 0, 59), 1);
        due("storyThen(0, 0, 60)", x.storyThen(0, 0, 60), 0);
        for (int n : Boundary.outside(0, 60)) {
            due("storyThen(0, 0, " + n + ")", x.storyThen(0, 0, n), -1);
        }
    }

    static void promise13_dayMayPass999() {
        told("In mind, n DAYS on (0 .. 60) (DAY may pass 999 there)");
        due("storyThen(0, 0, 1) on DAY 999", lostOnDay1001().storyThen(0, 0, 1), 1);
        due("storyThen(0, 0, 2) on DAY 999", lostOnDay1001().storyThen(0, 0, 2), 0);
    }

    static void promise13_inMindAlone() {
        told("In mind, n DAYS on (0 .. 60)");
        ToldWhereItWas x = townOf("p000;p101;o01;");
        String before = Boundary.picture(x);
        due("storyThen(0, 0, 60)", x.storyThen(0, 0, 60), 12);
        Boundary.unchanged(x, before);
    }

    // ---- promise 14

    static void promise14_noSuchOne() {
        told("What one OWNS n DAYS on (what 0, bits), WORTH of that (1). -1.");
        due("ownsThen(0, 0, 0) of nobody", new ToldWhereItWas().ownsThen(0, 0, 0), -1);
        ToldWhereItWas x = carerAndIdler();
        for (int p : Boundary.outside(0, 1)) {
            due("ownsThen(" + p + ", 1, 0)", x.ownsThen(p, 1, 0), -1);
        }
        due("ownsThen(9, 1, 0)", x.ownsThen(9, 1, 0), -1);
    }

    static void promise14_daysOutOfRange() {
        told("In mind, n DAYS on (0 .. 60)");
        ToldWhereItWas x = lostOnDay63(3);
        due("ownsThen(0, 0, 0)", x.ownsThen(0, 0, 0), 1);
        due("ownsThen(0, 59, 0)", x.ownsThen(0, 59, 0), 1);
        due("ownsThen(0, 60, 0)", x.ownsThen(0, 60, 0), 0);
        due("ownsThen(1, 60, 0)", x.ownsThen(1, 60, 0), 1);
        for (int n : Boundary.outside(0, 60)) {
            due("ownsThen(0, " + n + ", 0)", x.ownsThen(0, n, 0), -1);
        }
    }

    static void promise14_noSuchWhat() {
        told("What one OWNS n DAYS on (what 0, bits), WORTH of that (1). -1.");
        ToldWhereItWas x = townOf("p003;t340957;");
        due("ownsThen(0, 1, 0)", x.ownsThen(0, 1, 0), 8);
        due("ownsThen(0, 1, 1)", x.ownsThen(0, 1, 1), 7);
        for (int what : Boundary.outside(0, 1)) {
            due("ownsThen(0, 1, " + what + ")", x.ownsThen(0, 1, what), -1);
        }
    }

    static void promise14_nothingAndAll() {
        told("what one OWNS (bits of THINGS); WORTH of that");
        ToldWhereItWas x = townOf("p009;p009;t040959;t140959;t240959;t340959;t440959;o01;o11;o21;o31;o41;");
        due("ownsThen(0, 60, 0)", x.ownsThen(0, 60, 0), 0);
        due("ownsThen(0, 60, 1)", x.ownsThen(0, 60, 1), 0);
        due("ownsThen(1, 60, 0)", x.ownsThen(1, 60, 0), 31);
        due("ownsThen(1, 60, 1)", x.ownsThen(1, 60, 1), 45);
    }

    static void promise14_dayMayPass999() {
        told("In mind, n DAYS on (0 .. 60) (DAY may pass 999 there)");
        due("ownsThen(1, 1, 0) on DAY 999", lostOnDay1001().ownsThen(1, 1, 0), 0);
        due("ownsThen(1, 2, 0) on DAY 999", lostOnDay1001().ownsThen(1, 2, 0), 1);
    }

    static void promise14_inMindAlone() {
        told("In mind, n DAYS on (0 .. 60)");
        ToldWhereItWas x = townOf("p000;p101;o01;");
        String before = Boundary.picture(x);
        due("ownsThen(0, 60, 1)", x.ownsThen(0, 60, 1), 1);
        Boundary.unchanged(x, before);
    }

    // ---- promise 15

    static void promise15_noSuchOne() {
        told("COMES; -4. -1.");
        due("when(0, 0) of nobody", new ToldWhereItWas().when(0, 0), -1);
        ToldWhereItWas x = carerAndIdler();
        for (int p : Boundary.outside(0, 1)) {
            due("when(" + p + ", 0)", x.when(p, 0), -1);
        }
        due("when(9, 1), which is nobody's", x.when(9, 1), -1);
        due("when(1, 0)", x.when(1, 0), -4);
    }

    static void promise15_noSuchThing() {
        told("COMES; -4. -1.");
        ToldWhereItWas x = townOf("p000;p004;");
        for (int t : Boundary.outside(0, 4)) {
            due("when(0, " + t + ")", x.when(0, t), -1);
        }
        due("when(0, 0)", x.when(0, 0), 1);
        due("when(1, 4)", x.when(1, 4), 1);
    }

    static void promise15_now() {
        told("COMES: behind how many DAYS (0 .. 60) one is the OWNER of a THING first");
        due("when(0, 0), it is his", townOf("p009;o00;").when(0, 0), 0);
    }

    static void promise15_behind60DaysAnd61() {
        told("COMES: behind how many DAYS (0 .. 60) one is the OWNER of a THING first; -4");
        due("when(1, 0) behind 60", lostOnDay63(3).when(1, 0), 60);
        due("when(1, 0) behind 61", lostOnDay63(2).when(1, 0), -4);
    }

    static void promise15_first() {
        told("one is the OWNER of a THING first");
        // The second has it from DAY 1 on with 2 FACTS, the first from DAY 3 on with 3.
        ToldWhereItWas x = townOf("p000;p009;l1000;l1001;");
        due("when(0, 0)", x.when(0, 0), 3);
        due("when(1, 0), lost again on DAY 3", x.when(1, 0), 1);
    }

    static void promise15_dayMayPass999() {
        told("In mind, n DAYS on (0 .. 60) (DAY may pass 999 there)");
        due("when(1, 0) on DAY 999", lostOnDay1001().when(1, 0), 2);
    }

    static void promise15_inMindAlone() {
        told("In mind, n DAYS on (0 .. 60)");
        ToldWhereItWas x = townOf("p000;p101;o01;");
        String before = Boundary.picture(x);
        due("when(0, 1)", x.when(0, 1), -4);
        Boundary.unchanged(x, before);
    }

    // ---- promise 16

    static void promise16_noSuchThing() {
        told("LOSES; -4. -1.");
        ToldWhereItWas x = townOf("p009;p009;o00;o40;l1000;l1400;");
        for (int t : Boundary.outside(0, 4)) {
            due("loses(" + t + ")", x.loses(t), -1);
        }
        due("loses(0)", x.loses(0), 1);
        due("loses(4)", x.loses(4), 1);
    }

    static void promise16_nobodys() {
        told("LOSES: behind how many DAYS (0 .. 60) its OWNER now is not first; -4 (nobody's, too)");
        due("loses(0), owned on DAY 1", carerAndIdler().loses(0), -4);
        due("loses(1) where nobody is", new ToldWhereItWas().loses(1), -4);
    }

    static void promise16_behind60DaysAnd61() {
        told("LOSES: behind how many DAYS (0 .. 60) its OWNER now is not first; -4");
        due("loses(0) behind 60", lostOnDay63(3).loses(0), 60);
        due("loses(0) behind 61", lostOnDay63(2).loses(0), -4);
        due("loses(0), never", townOf("p009;o00;").loses(0), -4);
    }

    static void promise16_firstAndWonAgain() {
        told("its OWNER now is not first");
        // The MAN loses it on DAY 1 to 2 FACTS, and has it again on DAY 3.
        due("loses(0)", townOf("p000;p009;l1000;l1001;o00;").loses(0), 1);
    }

    static void promise16_dayMayPass999() {
        told("In mind, n DAYS on (0 .. 60) (DAY may pass 999 there)");
        due("loses(0) on DAY 999", lostOnDay1001().loses(0), 2);
    }

    static void promise16_inMindAlone() {
        told("In mind, n DAYS on (0 .. 60)");
        ToldWhereItWas x = townOf("p000;p101;o01;");
        String before = Boundary.picture(x);
        due("loses(0)", x.loses(0), 1);
        Boundary.unchanged(x, before);
    }

    // ---- promise 17

    static void promise17_noSuchOne() {
        told("LOOK AFTER (what 0), how much (1). -1.");
        due("lookAfter(0, 1, 0) of nobody", new ToldWhereItWas().lookAfter(0, 1, 0), -1);
        ToldWhereItWas x = carerAndIdler();
        for (int p : Boundary.outside(0, 1)) {
            due("lookAfter(" + p + ", 1, 0)", x.lookAfter(p, 1, 0), -1);
        }
        due("lookAfter(9, 1, 0)", x.lookAfter(9, 1, 0), -1);
    }

    static void promise17_daysOutOfRange() {
        told("WORTH of what he OWNS is most behind n DAYS (0 .. 60)");
        ToldWhereItWas x = townOf("p009;t340954;");
        due("lookAfter(0, 0, 0)", x.lookAfter(0, 0, 0), 0);
        due("lookAfter(0, 0, 1)", x.lookAfter(0, 0, 1), 0);
        due("lookAfter(0, 1, 0)", x.lookAfter(0, 1, 0), 3);
        due("lookAfter(0, 1, 1)", x.lookAfter(0, 1, 1), 4);
        due("lookAfter(0, 60, 0)", x.lookAfter(0, 60, 0), 3);
        for (int n : Boundary.outside(0, 60)) {
            due("lookAfter(0, " + n + ", 0)", x.lookAfter(0, n, 0), -1);
        }
    }

    static void promise17_behind60Days() {
        told("WORTH of what he OWNS is most behind n DAYS (0 .. 60)");
        due("lookAfter(1, 59, 1)", lostOnDay63(3).lookAfter(1, 59, 1), 1);
        // Behind 60 DAYS THING 0 comes to him without any care, and THING 1 by care.
        due("lookAfter(1, 60, 1)", lostOnDay63(3).lookAfter(1, 60, 1), 2);
        due("lookAfter(1, 60, 0)", lostOnDay63(3).lookAfter(1, 60, 0), 1);
    }

    static void promise17_noSuchWhat() {
        told("LOOK AFTER (what 0), how much (1). -1.");
        ToldWhereItWas x = Boundary.men(1);
        for (int what : Boundary.outside(0, 1)) {
            due("lookAfter(0, 1, " + what + ")", x.lookAfter(0, 1, what), -1);
        }
    }

    static void promise17_theFirstOfSeveral() {
        told("of several the first; how much");
        ToldWhereItWas x = townOf("p009;t040950;t140953;t240953;t440953;");
        due("lookAfter(0, 1, 0)", x.lookAfter(0, 1, 0), 1);
    }

    static void promise17_theLastThing() {
        told("what one had best CARE for from now (0 .. 4, or 9, tried last)");
        ToldWhereItWas x = townOf("p009;t440952;");
        due("lookAfter(0, 1, 0)", x.lookAfter(0, 1, 0), 4);
    }

    static void promise17_9IsTriedLast() {
        told("what one had best CARE for from now (0 .. 4, or 9, tried last)");
        due("lookAfter(0, 60, 0) of a SILENT one", townOf("p709;").lookAfter(0, 60, 0), 0);
        due("lookAfter(0, 60, 1) of a SILENT one", townOf("p709;").lookAfter(0, 60, 1), 0);
        ToldWhereItWas x = townOf("p009;t000001;t100001;t200001;t300001;t400001;");
        due("lookAfter(0, 60, 0) where nothing is TRUE", x.lookAfter(0, 60, 0), 0);
    }

    static void promise17_9IsBest() {
        told("what one had best CARE for from now (0 .. 4, or 9, tried last) so that WORTH of what he OWNS is most");
        ToldWhereItWas x = bestWithoutCare();
        for (int t = 0; t < 5; t++) {
            x.cares(0, t);
            due("ownsThen(0, 13, 0), he CARES for " + t, x.ownsThen(0, 13, 0), 31 - (1 << t));
        }
        x.cares(0, 9);
        due("ownsThen(0, 13, 0), he CARES for nothing", x.ownsThen(0, 13, 0), 31);
        due("lookAfter(0, 13, 0)", x.lookAfter(0, 13, 0), 9);
        due("lookAfter(0, 13, 1)", x.lookAfter(0, 13, 1), 5);
        due("lookAfter(0, 12, 0)", x.lookAfter(0, 12, 0), 0);
    }

    /**
     * On DAY 1 a town whose first one has all THINGS on DAY 14, but for the one for which he CARES. FACTS 0 and 10 are
     * TRUE. Of each THING the last one, a DOWAGER, has a STORY of 3 until DAY 14, when she FORGETS her only TRUE FACT;
     * he has 2, and so has then one of five OLD ones, who has learned of it: it becomes his, as he is the least. But if
     * he CARES for it he has 3 on DAY 2, and so he OWNS it until, on DAY 7, he FORGETS FACT 10: then the OLD one has 3,
     * OWNS it, and keeps it.
     */
    private static ToldWhereItWas bestWithoutCare() {
        ToldWhereItWas x = townOf("d01;t010251;t110251;t210251;t310251;t410251;p139;p130;p131;p132;p133;p134;p409;");
        for (int t = 0; t < 5; t++) {
            x.learns(0, t, 0);
            Boundary.teach(x, 0, t, 5, 6);
            x.learns(1 + t, t, 11);
            x.learns(6, t, 0);
            x.learns(6, t, 11);
        }
        return x;
    }

    static void promise17_hisCareNowIsOneOfThem() {
        told("what one had best CARE for from now");
        ToldWhereItWas x = townOf("p002;t040953;");
        due("lookAfter(0, 1, 0)", x.lookAfter(0, 1, 0), 0);
        due("one(0, 2), he CARES as before", x.one(0, 2), 2);
    }

    static void promise17_dayMayPass999() {
        told("In mind, n DAYS on (0 .. 60) (DAY may pass 999 there)");
        ToldWhereItWas x = Boundary.townOnDay(999, "p109;");
        due("lookAfter(0, 1, 1) of an OLD one on DAY 999", x.lookAfter(0, 1, 1), 1);
    }

    static void promise17_inMindAlone() {
        told("In mind, n DAYS on (0 .. 60)");
        ToldWhereItWas x = townOf("p000;p101;o01;");
        String before = Boundary.picture(x);
        due("lookAfter(0, 60, 0)", x.lookAfter(0, 60, 0), 0);
        Boundary.unchanged(x, before);
    }

    // ---- promise 18

    static void promise18_noSuchOne() {
        told("WIN; -4. -1.");
        due("win(0, 0) of nobody", new ToldWhereItWas().win(0, 0), -1);
        ToldWhereItWas x = Boundary.men(2);
        for (int p : Boundary.outside(0, 1)) {
            due("win(" + p + ", 0)", x.win(p, 0), -1);
        }
        due("win(1, 0)", x.win(1, 0), 1);
    }

    static void promise18_noSuchThing() {
        told("WIN; -4. -1.");
        ToldWhereItWas x = townOf("p009;l0000;l0400;");
        for (int t : Boundary.outside(0, 4)) {
            due("win(0, " + t + ")", x.win(0, t), -1);
        }
        due("win(0, 0)", x.win(0, 0), 0);
        due("win(0, 4)", x.win(0, 4), 0);
    }

    static void promise18_nobodyElse() {
        told("(where there is nobody else: above 0; the least ones he does not KNOW)");
        due("win(0, 0) of a MAN", Boundary.men(1).win(0, 0), 1);
        due("win(0, 0) of a BURGLAR: FACTS 0 and 1", townOf("p609;").win(0, 0), 2);
        due("win(0, 0) of an OWNER without a STORY", townOf("p009;o00;").win(0, 0), 1);
        due("win(0, 0) of a SILENT one", townOf("p709;").win(0, 0), -4);
    }

    static void promise18_noneMore() {
        told("the fewest TRUE FACTS more (0 .. 12) one must KNOW now");
        due("win(0, 0) with the longest", townOf("p009;p009;l0000;l0001;l1000;").win(0, 0), 0);
        due("win(0, 0) with a longest one", townOf("p009;p009;l0000;l1000;").win(0, 0), 1);
        ToldWhereItWas x = Boundary.men(1);
        x.learns(0, 0, 11);
        due("win(0, 0) with what he has just come to KNOW", x.win(0, 0), 0);
    }

    static void promise18_12More() {
        told("the fewest TRUE FACTS more (0 .. 12) one must KNOW now");
        ToldWhereItWas x = townOf("p009;p309;p139;");
        Boundary.teach(x, 0, 0, 0, 10);
        due("win(2, 0) over 11: 12 and 1 of an OLD one, less one", x.win(2, 0), 11);
        x.learns(0, 0, 11);
        due("win(2, 0) over 12", x.win(2, 0), 12);
        Boundary.teach(x, 1, 0, 0, 6);
        due("win(2, 0) over 12 and 8", x.win(2, 0), 12);
        Boundary.teach(x, 1, 0, 7, 11);
        due("win(2, 0) over 18", x.win(2, 0), -4);
    }

    static void promise18_asLongIsNotLonger() {
        told("so that his STORY for a THING is longer than its OWNER's and all others'");
        ToldWhereItWas x = townOf("t000071;p009;p009;l1000;l1001;o01;");
        due("win(0, 0) over 2 of 3", x.win(0, 0), 3);
        x.learns(1, 0, 2);
        due("win(0, 0) over 3 of 3", x.win(0, 0), -4);
    }

    static void promise18_allOthers() {
        told("longer than its OWNER's and all others'");
        ToldWhereItWas x = townOf("p009;p009;p009;o01;l1000;l2000;l2001;");
        due("win(0, 0): the OWNER has 1, the last 2", x.win(0, 0), 3);
        due("win(1, 0): the OWNER himself", x.win(1, 0), 2);
        due("win(2, 0)", x.win(2, 0), 0);
        ToldWhereItWas y = Boundary.men(7);
        y.learns(6, 0, 0);
        due("win(0, 0) over the last of seven", y.win(0, 0), 2);
    }

    static void promise18_theLeastOnes() {
        told("the least ones he does not KNOW");
        ToldWhereItWas x = townOf("p309;p009;l1000;l1001;l1002;l0000;");
        // FACTS 1, 2 and 3 are needed, though FACTS 6 and 7 were enough.
        due("win(0, 0) of a SERVANT", x.win(0, 0), 3);
        x.past(0, 0xfc7);
        due("win(0, 0) of a SERVANT: 1, 2, 6", x.win(0, 0), 3);
        x.past(0, 0xfc1);
        due("win(0, 0) of a SERVANT: 6", x.win(0, 0), 1);
    }

    static void promise18_trueFactsAlone() {
        told("the fewest TRUE FACTS more");
        due("win(0, 0) of a LIAR where nothing is TRUE", townOf("p209;t000001;").win(0, 0), -4);
        due("win(0, 0) of a LIAR who KNOWS 2 FALSE ones", townOf("p209;t000001;l0000;l0001;").win(0, 0), 0);
        due("win(0, 0) of a MAN who KNOWS all TRUE ones", townOf("p009;p009;t000011;l0000;l1000;").win(0, 0), -4);
    }

    static void promise18_inMindAlone() {
        told("one must KNOW now");
        ToldWhereItWas x = townOf("p009;p009;l1000;");
        String before = Boundary.picture(x);
        due("win(0, 0)", x.win(0, 0), 2);
        Boundary.unchanged(x, before);
    }

    // ---- promise 19

    static void promise19_noSuchOne() {
        told("ASK; -4. -1.");
        due("ask(0, 0) of nobody", new ToldWhereItWas().ask(0, 0), -1);
        ToldWhereItWas x = townOf("p009;p009;l0000;");
        for (int p : Boundary.outside(0, 1)) {
            due("ask(" + p + ", 0)", x.ask(p, 0), -1);
        }
        due("ask(1, 0)", x.ask(1, 0), 0);
    }

    static void promise19_noSuchThing() {
        told("ASK; -4. -1.");
        ToldWhereItWas x = townOf("p009;p009;l1000;l1400;");
        for (int t : Boundary.outside(0, 4)) {
            due("ask(0, " + t + ")", x.ask(0, t), -1);
        }
        due("ask(0, 0)", x.ask(0, 0), 1);
        due("ask(0, 4)", x.ask(0, 4), 1);
    }

    static void promise19_nobodyElse() {
        told("longer than as it is, of several the least; -4");
        due("ask(0, 0)", townOf("p009;l0000;").ask(0, 0), -4);
    }

    static void promise19_notLonger() {
        told("so that his STORY is longest, longer than as it is, of several the least; -4");
        ToldWhereItWas x = townOf("p009;p009;p109;l0000;l0001;l1000;l1001;");
        due("ask(0, 0), who KNOW no more", x.ask(0, 0), -4);
        x.learns(1, 0, 2);
        due("ask(0, 0), one FACT more", x.ask(0, 0), 1);
        x.past(0, 3);
        due("ask(0, 0), one FALSE one more", x.ask(0, 0), -4);
    }

    static void promise19_theLeastOfSeveral() {
        told("of several the least; -4");
        ToldWhereItWas x = townOf("p009;p009;p009;p009;l1000;l2001;l2002;l3003;l3004;");
        due("ask(0, 0)", x.ask(0, 0), 2);
        due("ask(2, 0)", x.ask(2, 0), 3);
        due("ask(1, 0)", x.ask(1, 0), 2);
    }

    static void promise19_theLastOfSeven() {
        told("PEOPLE 0 .. 6 as they come (7 at most)");
        ToldWhereItWas x = Boundary.men(7);
        x.learns(6, 0, 11);
        due("ask(0, 0)", x.ask(0, 0), 6);
        due("ask(6, 0)", x.ask(6, 0), -4);
    }

    static void promise19_allThatOneKnows() {
        told("(he KNOWS of a THING all that one KNOWS, too, then)");
        ToldWhereItWas x = townOf("p209;p009;p009;t000011;l1003;l1004;l2003;");
        due("ask(0, 0) of a LIAR, two FALSE ones", x.ask(0, 0), 1);
        x.learns(1, 0, 3);
        due("ask(0, 0) of a LIAR, one FALSE one", x.ask(0, 0), -4);
        x.learns(0, 0, 11);
        due("ask(0, 0) of a LIAR, his FALSE one and another's", x.ask(0, 0), 1);
    }

    static void promise19_inMindAlone() {
        told("(he KNOWS of a THING all that one KNOWS, too, then)");
        ToldWhereItWas x = townOf("p009;p009;l1000;");
        String before = Boundary.picture(x);
        due("ask(0, 0)", x.ask(0, 0), 1);
        Boundary.unchanged(x, before);
    }

    // ---- promise 20

    static void promise20_outOfRange() {
        told("CARE: how much (t -1), whom a THING has (-4). -1 (t below -1, too).");
        ToldWhereItWas x = townOf("p009;p009;l0000;l1400;l1401;");
        due("care(-1)", x.care(-1), 3);
        due("care(0)", x.care(0), 0);
        due("care(4)", x.care(4), 1);
        for (int t : Boundary.outside(-1, 4)) {
            due("care(" + t + ")", x.care(t), -1);
        }
    }

    static void promise20_nobodyThere() {
        told("how much; whom a THING has by the first such (by THINGS, the least one, nobody last); -4");
        ToldWhereItWas x = new ToldWhereItWas();
        due("care(-1)", x.care(-1), 0);
        for (int t = 0; t < 5; t++) {
            due("care(" + t + ")", x.care(t), -4);
        }
    }

    static void promise20_oneEachAtMost() {
        told("PEOPLE to THINGS, one each at most, each CARING for his own one, no two for one");
        ToldWhereItWas x = townOf("p009;l0000;l0100;l0200;l0300;l0400;");
        due("care(-1) of one", x.care(-1), 1);
        due("care(0)", x.care(0), 0);
        due("care(1)", x.care(1), -4);
        ToldWhereItWas y = Boundary.men(7);
        for (int p = 0; p < 7; p++) {
            y.learns(p, 2, 0);
        }
        due("care(-1) of seven for one THING", y.care(-1), 1);
    }

    static void promise20_nobodyLast() {
        told("by the first such (by THINGS, the least one, nobody last)");
        ToldWhereItWas x = Boundary.men(2);
        due("care(-1) without STORIES", x.care(-1), 0);
        due("care(0) without STORIES", x.care(0), 0);
        due("care(1) without STORIES", x.care(1), 1);
        due("care(2) without STORIES", x.care(2), -4);
        ToldWhereItWas y = townOf("p009;p009;l0400;");
        due("care(0), the first is wanted at the end", y.care(0), 1);
        due("care(4)", y.care(4), 0);
    }

    static void promise20_theLeastOne() {
        told("by the first such (by THINGS, the least one, nobody last)");
        ToldWhereItWas x = townOf("p009;p009;l0000;l1001;l0100;l1101;");
        due("care(-1)", x.care(-1), 2);
        due("care(0)", x.care(0), 0);
        due("care(1)", x.care(1), 1);
    }

    static void promise20_mostTogetherGoesBeforeTheFirst() {
        told("so that STORIES for these, as they are, are most together");
        // The first has 2 for THING 0 and 3 for THING 1; the second 2 for THING 0 alone.
        ToldWhereItWas x = townOf("p009;p009;l0000;l0001;l0100;l0101;l0102;l1000;l1001;");
        due("care(-1)", x.care(-1), 5);
        due("care(0)", x.care(0), 1);
        due("care(1)", x.care(1), 0);
    }

    static void promise20_sevenForFive() {
        told("PEOPLE to THINGS, one each at most, each CARING for his own one, no two for one");
        ToldWhereItWas x = Boundary.men(7);
        for (int t = 0; t < 5; t++) {
            Boundary.teach(x, 6 - t, t, 0, t);
        }
        due("care(-1)", x.care(-1), 15);
        for (int t = 0; t < 5; t++) {
            due("care(" + t + ")", x.care(t), 6 - t);
        }
    }

    static void promise20_asTheyAre() {
        told("STORIES for these, as they are");
        ToldWhereItWas x = townOf("p000;p001;l1100;");
        String before = Boundary.picture(x);
        due("care(-1)", x.care(-1), 1);
        due("care(0)", x.care(0), 0);
        Boundary.unchanged(x, before);
    }

    // ---- promise 21

    static void promise21_noSuchWhat() {
        told("RICHEST (what 0; -4), UNOWNED (1, bits), LONGEST (2; -4), STILL (3; -4). -1.");
        ToldWhereItWas x = Boundary.men(1);
        for (int what : Boundary.outside(0, 3)) {
            due("richest(" + what + ")", x.richest(what), -1);
        }
    }

    static void promise21_richestOfNobody() {
        told("RICHEST by WORTH, of several the least; -4");
        due("richest(0)", new ToldWhereItWas().richest(0), -4);
    }

    static void promise21_richestOfSeveral() {
        told("RICHEST by WORTH, of several the least; -4");
        ToldWhereItWas x = townOf("p009;p009;p009;o01;o12;");
        due("richest(0) of 0, 1, 1", x.richest(0), 1);
        x.gives(2, 2);
        due("richest(0) of 0, 1, 2", x.richest(0), 2);
        ToldWhereItWas y = Boundary.men(7);
        y.gives(4, 6);
        due("richest(0), the last of seven", y.richest(0), 6);
    }

    static void promise21_richestByWorth() {
        told("RICHEST by WORTH, of several the least; -4");
        ToldWhereItWas x = townOf("p009;p009;t440953;o00;o10;o41;");
        due("richest(0) of two THINGS, 1 each, and one of 3", x.richest(0), 1);
    }

    static void promise21_richestOfNothing() {
        told("RICHEST by WORTH, of several the least; -4");
        due("richest(0) of two who have nothing", Boundary.men(2).richest(0), 0);
    }

    static void promise21_unownedAllAndNone() {
        told("UNOWNED: THINGS (bits)");
        due("richest(1) of nobody", new ToldWhereItWas().richest(1), 31);
        due("richest(1) of all given", townOf("p009;o00;o10;o20;o30;o40;").richest(1), 0);
        due("richest(1) of the first and the last given", townOf("p009;o00;o40;").richest(1), 14);
    }

    static void promise21_longestOfNobody() {
        told("LONGEST of all STORIES: 10 the one and the THING, of several the first; -4 all are 0");
        due("richest(2) of nobody", new ToldWhereItWas().richest(2), -4);
        due("richest(2) without STORIES", Boundary.men(7).richest(2), -4);
        due("richest(2) of a SILENT one", townOf("p709;l0000;").richest(2), -4);
        due("richest(2) of FALSE ones", townOf("t000001;p009;l0000;").richest(2), -4);
    }

    static void promise21_longestFirstAndLast() {
        told("10 the one and the THING, of several the first");
        due("richest(2) of the first", townOf("p009;l0000;").richest(2), 0);
        ToldWhereItWas x = Boundary.men(7);
        x.learns(6, 4, 0);
        due("richest(2) of the last", x.richest(2), 64);
        x.learns(3, 1, 0);
        x.learns(3, 2, 0);
        due("richest(2) of several", x.richest(2), 31);
        x.learns(5, 0, 0);
        due("richest(2) of one more behind", x.richest(2), 31);
    }

    static void promise21_longestIsLonger() {
        told("LONGEST of all STORIES");
        due("richest(2)", townOf("p009;p009;l0000;l1400;l1401;").richest(2), 14);
    }

    static void promise21_stillAtOnce() {
        told("STILL: the least n (0 .. 50) with all OWNERS behind n as behind n and 1 .. 10 more DAYS; -4");
        due("richest(3) of nobody", new ToldWhereItWas().richest(3), 0);
        due("richest(3) of idlers", Boundary.men(7).richest(3), 0);
        due("richest(3) of what is owned already", townOf("p000;o00;").richest(3), 0);
    }

    /** THING 0 has an OWNER who KNOWS as many FACTS; he loses it on the DAY behind that number to one who LEARNS. */
    private static ToldWhereItWas lostBehind(int facts, String more) {
        ToldWhereItWas x = townOf("p009;p000;o00;" + more);
        Boundary.teach(x, 0, 0, 0, facts - 1);
        return x;
    }

    static void promise21_still10DaysMore() {
        told("all OWNERS behind n as behind n and 1 .. 10 more DAYS");
        due("richest(3), lost on DAY 10", lostBehind(9, "").richest(3), 10);
        due("richest(3), lost on DAY 11", lostBehind(10, "").richest(3), 0);
        due("richest(3), won on DAY 1, lost on DAY 11", lostBehind(10, "p004;").richest(3), 11);
        due("richest(3), won on DAY 1, lost on DAY 12", lostBehind(11, "p004;").richest(3), 1);
    }

    static void promise21_stillAllOwners() {
        told("all OWNERS behind n as behind n and 1 .. 10 more DAYS");
        due("richest(3), the last THING alone", townOf("p004;").richest(3), 1);
        ToldWhereItWas x = townOf("p004;p009;p009;o01;l2000;");
        due("richest(3), from one to another", x.richest(3), 1);
    }

    /**
     * A DOWAGER, an OLD one and a MAN: on DAYS 7, 14, .. 56 one THING after the other, 0 .. 3, goes from the first to
     * the second and then to the third.
     */
    private static ToldWhereItWas eightChanges(int day) {
        ToldWhereItWas x = Boundary.townOnDay(day, "p499;p199;p009;l2000;l2100;l2200;l2300;o00;o10;o20;o30;");
        for (int t = 0; t < 4; t++) {
            Boundary.teach(x, 0, t, 0, 2 * t);
            Boundary.teach(x, 1, t, 0, 2 * t + 1);
        }
        return x;
    }

    static void promise21_stillBehind50And51() {
        told("STILL: the least n (0 .. 50)");
        due("richest(3), the last one behind 50 DAYS", eightChanges(6).richest(3), 50);
        due("richest(3), the last one behind 51 DAYS", eightChanges(5).richest(3), -4);
    }

    static void promise21_dayMayPass999() {
        told("In mind, n DAYS on (0 .. 60) (DAY may pass 999 there)");
        due("richest(3) on DAY 999", lostOnDay1001().richest(3), 2);
    }

    static void promise21_inMindAlone() {
        told("In mind, n DAYS on (0 .. 60)");
        ToldWhereItWas x = townOf("p000;p101;o01;");
        String before = Boundary.picture(x);
        due("richest(3)", x.richest(3), 2);
        Boundary.unchanged(x, before);
    }

    // ---- promise 22

    static void promise22_noSuchThing() {
        told("COMMON (what 0, bits), SECRET (1, bits), LOST (2, bits), RIVALS (3). -1.");
        ToldWhereItWas x = Boundary.men(2);
        for (int t : Boundary.outside(0, 4)) {
            for (int what = 0; what < 4; what++) {
                due("common(" + t + ", " + what + ")", x.common(t, what), -1);
            }
        }
        due("common(0, 2)", x.common(0, 2), 4095);
        due("common(4, 2)", x.common(4, 2), 4095);
    }

    static void promise22_noSuchWhat() {
        told("COMMON (what 0, bits), SECRET (1, bits), LOST (2, bits), RIVALS (3). -1.");
        for (int what : Boundary.outside(0, 3)) {
            due("common(0, " + what + ")", Boundary.men(1).common(0, what), -1);
        }
    }

    static void promise22_nobodyThere() {
        told("COMMON: FACTS (bits) of a THING that all KNOW (0 of nobody)");
        ToldWhereItWas x = new ToldWhereItWas();
        due("common(0, 0)", x.common(0, 0), 0);
        due("common(0, 1)", x.common(0, 1), 0);
        due("common(0, 2)", x.common(0, 2), 4095);
        due("common(0, 3)", x.common(0, 3), 0);
    }

    static void promise22_commonOfAllSeven() {
        told("COMMON: FACTS (bits) of a THING that all KNOW (0 of nobody)");
        ToldWhereItWas x = Boundary.men(7);
        for (int p = 0; p < 7; p++) {
            Boundary.teach(x, p, 3, 0, 11);
        }
        due("common(3, 0)", x.common(3, 0), 4095);
        x.learns(6, 3, 11);
        due("common(3, 0), the last does not KNOW FACT 11", x.common(3, 0), 2047);
        x.learns(0, 3, 0);
        due("common(3, 0), the first does not KNOW FACT 0", x.common(3, 0), 2046);
        due("common(0, 0), which nobody KNOWS", x.common(0, 0), 0);
    }

    static void promise22_secretOfJustOne() {
        told("SECRET: FACTS (bits) of a THING that just one KNOWS");
        ToldWhereItWas x = townOf("p009;p009;p009;l0000;l1001;l2011;");
        due("common(0, 1)", x.common(0, 1), 1 + 2 + 2048);
        x.learns(2, 0, 0);
        due("common(0, 1), two KNOW FACT 0", x.common(0, 1), 2 + 2048);
        x.learns(1, 0, 0);
        due("common(0, 1), three KNOW FACT 0", x.common(0, 1), 2 + 2048);
        x.past(0, 0);
        due("common(0, 1), FALSE ones too", x.common(0, 1), 2 + 2048);
        due("common(0, 1) of one", townOf("p009;l0000;l0011;").common(0, 1), 1 + 2048);
    }

    static void promise22_lostTrueOnes() {
        told("LOST: TRUE FACTS (bits) of a THING nobody KNOWS");
        ToldWhereItWas x = townOf("t000151;p009;p009;l0000;l1001;");
        due("common(0, 2): 2 and 3 of 0 .. 3", x.common(0, 2), 4 + 8);
        x.learns(1, 0, 2);
        x.learns(0, 0, 3);
        due("common(0, 2), none", x.common(0, 2), 0);
        due("common(1, 2) of another", x.common(1, 2), 4095);
    }

    static void promise22_rivalsAbove0() {
        told("RIVALS: how many twos of PEOPLE have one STORY above 0 for a THING");
        due("common(0, 3) of STORIES 0, 0", Boundary.men(2).common(0, 3), 0);
        due("common(0, 3) of STORIES 1, 0", townOf("p009;p009;l0000;").common(0, 3), 0);
        due("common(0, 3) of STORIES 1, 1", townOf("p009;p009;l0000;l1011;").common(0, 3), 1);
        due("common(0, 3) of one", townOf("p009;l0000;").common(0, 3), 0);
    }

    static void promise22_rivalsOfSeven() {
        told("RIVALS: how many twos of PEOPLE have one STORY above 0 for a THING");
        ToldWhereItWas x = Boundary.men(7);
        for (int p = 0; p < 7; p++) {
            x.learns(p, 4, p);
        }
        due("common(4, 3) of seven alike", x.common(4, 3), 21);
        x.learns(0, 4, 11);
        x.learns(6, 4, 11);
        due("common(4, 3) of five and two", x.common(4, 3), 11);
    }
}
