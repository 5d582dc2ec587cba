import java.math.BigInteger;

/** The boundary cases of promises 23 to 33: what rows tell, odds and shares, years by seeds, the image. */
public final class ToldBoundaryTest {
    private static final int[] LEAST = {-128, -32768, Boundary.LEAST_INT};
    private static final int ALL_KINDS = 255;
    private static final int ALL_FIGURES = 1023;
    private static final long REFUSED = Boundary.REFUSED_LONG;

    public static void main(String[] args) {
        Boundary.main(ToldBoundaryTest.class, 23, 33);
    }

    private static void told(String words) {
        Boundary.told(words);
    }

    private static void due(String call, long got, long want) {
        Boundary.due(call, got, want);
    }

    private static ToldWhereItWas townOf(String text) {
        return Boundary.townOf(text);
    }

    private static void rowOf(ToldWhereItWas x, int d, int sort, int... elements) {
        Boundary.rowOf(x, d, sort, elements);
    }

    /** As many elements of one number, the last one another. */
    private static int[] endingIn(int last, int n, int number) {
        int[] elements = new int[n];
        java.util.Arrays.fill(elements, number);
        elements[n - 1] = last;
        return elements;
    }

    // ---- promise 23

    static void promise23_noSuchShelf() {
        told("KINDS (what 0), FIGURES (1), bits. -1, -11, -12 (no ROW).");
        ToldWhereItWas x = Boundary.men(1);
        for (int d : Boundary.outside(0, 7)) {
            due("whatIs(" + d + ", 0, 0)", x.whatIs(d, 0, 0), -1);
        }
        x.row(0, 0, 0);
        x.row(7, 0, 0);
        due("whatIs(0, 0, 0)", x.whatIs(0, 0, 0), ALL_KINDS);
        due("whatIs(7, 0, 0)", x.whatIs(7, 0, 0), ALL_KINDS);
    }

    static void promise23_noSuchOne() {
        told("KINDS (what 0), FIGURES (1), bits. -1, -11, -12 (no ROW).");
        ToldWhereItWas x = Boundary.men(2);
        x.row(0, 0, 0);
        for (int p : Boundary.outside(0, 1)) {
            due("whatIs(0, " + p + ", 0)", x.whatIs(0, p, 0), -1);
        }
        due("whatIs(0, 1, 0)", x.whatIs(0, 1, 0), ALL_KINDS);
        ToldWhereItWas y = new ToldWhereItWas();
        y.row(0, 0, 0);
        due("whatIs(0, 0, 0) of nobody", y.whatIs(0, 0, 0), -1);
    }

    static void promise23_noSuchWhat() {
        told("KINDS (what 0), FIGURES (1), bits. -1, -11, -12 (no ROW).");
        ToldWhereItWas x = Boundary.men(1);
        x.row(0, 0, 0);
        for (int what : Boundary.outside(0, 1)) {
            due("whatIs(0, 0, " + what + ")", x.whatIs(0, 0, what), -1);
        }
        due("whatIs(0, 0, 1)", x.whatIs(0, 0, 1), ALL_FIGURES);
    }

    static void promise23_nothingThereOrOne() {
        told("KINDS (what 0), FIGURES (1), bits. -1, -11, -12 (no ROW).");
        ToldWhereItWas x = Boundary.men(1);
        due("whatIs(0, 0, 0)", x.whatIs(0, 0, 0), -11);
        x.keep(0, 1, 0, 0);
        due("whatIs(0, 0, 0)", x.whatIs(0, 0, 0), -12);
    }

    static void promise23_whichRefusalGoesFirst() {
        told("-1, -11, -12 (no ROW).");
        ToldWhereItWas x = Boundary.men(1);
        x.keep(1, 1, 0, 0);
        due("whatIs(0, 1, 0): no such one, nothing there", x.whatIs(0, 1, 0), -1);
        due("whatIs(0, 0, 2): no such what, nothing there", x.whatIs(0, 0, 2), -1);
        due("whatIs(1, 1, 0): no such one, one there", x.whatIs(1, 1, 0), -1);
        due("whatIs(1, 0, 2): no such what, one there", x.whatIs(1, 0, 2), -1);
    }

    static void promise23_nothingTold() {
        told("KINDS (bits) of him by which all of it is so");
        ToldWhereItWas x = townOf("p350;");
        for (int sort = 0; sort < 3; sort++) {
            x.row(0, sort, 0);
            due("whatIs(0, 0, 0)", x.whatIs(0, 0, 0), ALL_KINDS);
            due("whatIs(0, 0, 1)", x.whatIs(0, 0, 1), ALL_FIGURES);
        }
    }

    static void promise23_theLeastNumberIsSkipped() {
        told("(the least number of the SORT is skipped)");
        ToldWhereItWas x = townOf("p000;");
        for (int sort = 0; sort < 3; sort++) {
            rowOf(x, 0, sort, LEAST[sort], LEAST[sort], LEAST[sort]);
            due("whatIs(0, 0, 0), the least of sort " + sort, x.whatIs(0, 0, 0), ALL_KINDS);
            rowOf(x, 0, sort, LEAST[sort] + 1);
            due("whatIs(0, 0, 0), the least but one of sort " + sort, x.whatIs(0, 0, 0), 0);
        }
        rowOf(x, 0, 1, -128);
        due("whatIs(0, 0, 0), the least byte as a short", x.whatIs(0, 0, 0), 0);
        rowOf(x, 0, 2, -128);
        due("whatIs(0, 0, 0), the least byte as an int", x.whatIs(0, 0, 0), 0);
        rowOf(x, 0, 2, -32768);
        due("whatIs(0, 0, 0), the least short as an int", x.whatIs(0, 0, 0), 0);
        rowOf(x, 0, 0, 127);
        due("whatIs(0, 0, 0), the greatest byte", x.whatIs(0, 0, 0), 0);
    }

    static void promise23_whatIsSkippedIsADayToo() {
        told("behind 0, 1, .. DAYS (the least number of the SORT is skipped)");
        ToldWhereItWas x = townOf("p000;");
        rowOf(x, 0, 0, -128, -128, -128, 3);
        due("whatIs(0, 0, 0), 3 behind 3 DAYS: a MAN, and a DOWAGER by FACT 0", x.whatIs(0, 0, 0), 1 + 16);
    }

    static void promise23_behind0Days() {
        told("behind 0, 1, .. DAYS");
        ToldWhereItWas x = townOf("p000;l0000;l0001;");
        rowOf(x, 0, 0, 2);
        // By FIGURE 0 all but a DOWAGER, a BURGLAR and a SILENT one have 2 now.
        due("whatIs(0, 0, 0), 2 now", x.whatIs(0, 0, 0), 1 + 2 + 4 + 8 + 32);
        rowOf(x, 0, 0, 3);
        due("whatIs(0, 0, 0), 3 now", x.whatIs(0, 0, 0), 0);
    }

    static void promise23_theFirstAndTheLastKind() {
        told("KINDS (bits) of him by which all of it is so");
        ToldWhereItWas x = townOf("p390;");
        rowOf(x, 0, 0, 0, 1);
        due("whatIs(0, 0, 0) of a MAN", x.whatIs(0, 0, 0), 1);
        rowOf(x, 0, 0, 0, 0, 0);
        due("whatIs(0, 0, 0) of a SILENT one", x.whatIs(0, 0, 0), 128);
        rowOf(x, 0, 0, 0, 0, 0, 1);
        due("whatIs(0, 0, 0) of none", x.whatIs(0, 0, 0), 0);
    }

    static void promise23_theFirstAndTheLastFigure() {
        told("FIGURES (bits 0 .. 9)");
        ToldWhereItWas x = townOf("p150;");
        rowOf(x, 0, 0, 0, 0, 1);
        due("whatIs(0, 0, 1), 1 of an OLD one", x.whatIs(0, 0, 1), 1 + 2 + 4);
        rowOf(x, 0, 0, 0, 0, 4);
        due("whatIs(0, 0, 1), 4 of an OLD one", x.whatIs(0, 0, 1), 512);
        rowOf(x, 0, 0, 0, 0, 5);
        due("whatIs(0, 0, 1), 5 of an OLD one", x.whatIs(0, 0, 1), 0);
    }

    static void promise23_caresForNothing() {
        told("(he CARES for nothing: STORY 0)");
        ToldWhereItWas x = townOf("p009;l0000;l0001;");
        rowOf(x, 0, 0, 0, 0);
        due("whatIs(0, 0, 0) of 0, 0", x.whatIs(0, 0, 0), ALL_KINDS);
        due("whatIs(0, 0, 1) of 0, 0", x.whatIs(0, 0, 1), ALL_FIGURES);
        rowOf(x, 0, 0, 0, 1);
        due("whatIs(0, 0, 0) of 0, 1", x.whatIs(0, 0, 0), 0);
        due("whatIs(0, 0, 1) of 0, 1", x.whatIs(0, 0, 1), 0);
    }

    static void promise23_aFullRow() {
        told("0 .. 100 elements");
        ToldWhereItWas x = townOf("p050;");
        rowOf(x, 0, 0, endingIn(12, 100, -128));
        // On DAY 98 an OLD one FORGETS to 11 FACTS, and has 1 more by FIGURE 5.
        due("whatIs(0, 0, 0), 12 behind 99 DAYS", x.whatIs(0, 0, 0), 1 + 2 + 4 + 32);
        x.put(0, 99, 17);
        due("whatIs(0, 0, 0), 17 behind 99 DAYS", x.whatIs(0, 0, 0), 64);
    }

    static void promise23_dayMayPass999() {
        told("In mind, n DAYS on (0 .. 60) (DAY may pass 999 there)");
        ToldWhereItWas x = Boundary.townOnDay(999, "p100;");
        rowOf(x, 0, 0, 0, 1, 1);
        due("whatIs(0, 0, 1): 1 on DAYS 1000, 1001", x.whatIs(0, 0, 1), 0);
        rowOf(x, 0, 0, 0, 1, 0);
        due("whatIs(0, 0, 1): 1 on DAY 1000, FORGETS on DAY 1001", x.whatIs(0, 0, 1), 1 + 2 + 4);
    }

    static void promise23_inMindAlone() {
        told("In mind, n DAYS on (0 .. 60)");
        ToldWhereItWas x = townOf("p350;p101;o01;");
        rowOf(x, 0, 0, 0, 2, 3);
        String before = Boundary.picture(x);
        due("whatIs(0, 0, 1)", x.whatIs(0, 0, 1), ALL_FIGURES);
        due("whatIs(0, 0, 0)", x.whatIs(0, 0, 0), 8);
        Boundary.unchanged(x, before);
    }

    // ---- promise 24

    private static void duePasts(ToldWhereItWas x, int d, int many, int least, int greatest) {
        due("whichPast(" + d + ", 0, 0)", x.whichPast(d, 0, 0), many);
        due("whichPast(" + d + ", 0, 1)", x.whichPast(d, 0, 1), least);
        due("whichPast(" + d + ", 0, 2)", x.whichPast(d, 0, 2), greatest);
    }

    static void promise24_noSuchShelf() {
        told("how many (what 0), the least (1; -4), the greatest (2; -4). -1, -11, -12.");
        ToldWhereItWas x = Boundary.men(1);
        for (int d : Boundary.outside(0, 7)) {
            due("whichPast(" + d + ", 0, 0)", x.whichPast(d, 0, 0), -1);
        }
        x.row(7, 0, 0);
        due("whichPast(7, 0, 0)", x.whichPast(7, 0, 0), 4096);
    }

    static void promise24_noSuchThing() {
        told("how many (what 0), the least (1; -4), the greatest (2; -4). -1, -11, -12.");
        ToldWhereItWas x = townOf("p009;l0000;l0401;");
        rowOf(x, 0, 0, 1);
        for (int t : Boundary.outside(0, 4)) {
            due("whichPast(0, " + t + ", 0)", x.whichPast(0, t, 0), -1);
        }
        due("whichPast(0, 0, 1)", x.whichPast(0, 0, 1), 1);
        due("whichPast(0, 4, 1)", x.whichPast(0, 4, 1), 2);
    }

    static void promise24_noSuchWhat() {
        told("how many (what 0), the least (1; -4), the greatest (2; -4). -1, -11, -12.");
        ToldWhereItWas x = Boundary.men(1);
        x.row(0, 0, 0);
        for (int what : Boundary.outside(0, 2)) {
            due("whichPast(0, 0, " + what + ")", x.whichPast(0, 0, what), -1);
        }
    }

    static void promise24_nothingThereOrOne() {
        told("how many (what 0), the least (1; -4), the greatest (2; -4). -1, -11, -12.");
        ToldWhereItWas x = Boundary.men(1);
        due("whichPast(0, 0, 0)", x.whichPast(0, 0, 0), -11);
        x.keep(0, 1, 0, 0);
        due("whichPast(0, 0, 0)", x.whichPast(0, 0, 0), -12);
    }

    static void promise24_whichRefusalGoesFirst() {
        told("-1, -11, -12.");
        ToldWhereItWas x = Boundary.men(1);
        x.keep(1, 1, 0, 0);
        due("whichPast(0, 5, 0): no such THING, nothing there", x.whichPast(0, 5, 0), -1);
        due("whichPast(0, 0, 3): no such what, nothing there", x.whichPast(0, 0, 3), -1);
        due("whichPast(1, 5, 0): no such THING, one there", x.whichPast(1, 5, 0), -1);
        due("whichPast(1, 0, 3): no such what, one there", x.whichPast(1, 0, 3), -1);
    }

    static void promise24_nothingTold() {
        told("how many PASTS (0 .. 4095) make it so; the least; the greatest; -4");
        ToldWhereItWas x = Boundary.men(7);
        x.row(0, 0, 0);
        duePasts(x, 0, 4096, 0, 4095);
    }

    static void promise24_nobodyThere() {
        told("(skipped likewise; more than there are: none)");
        ToldWhereItWas x = new ToldWhereItWas();
        x.row(0, 0, 0);
        duePasts(x, 0, 4096, 0, 4095);
        x.row(0, 0, 1);
        duePasts(x, 0, 0, -4, -4);
    }

    static void promise24_asManyAsThereAreAndOneMore() {
        told("(skipped likewise; more than there are: none)");
        ToldWhereItWas x = Boundary.men(2);
        x.row(0, 0, 2);
        duePasts(x, 0, 4096, 0, 4095);
        x.row(0, 0, 3);
        duePasts(x, 0, 0, -4, -4);
        ToldWhereItWas y = Boundary.men(7);
        y.learns(6, 0, 11);
        rowOf(y, 0, 1, 0, 0, 0, 0, 0, 0, 1);
        duePasts(y, 0, 2048, 2048, 4095);
        y.row(0, 1, 8);
        duePasts(y, 0, 0, -4, -4);
        y.row(0, 1, 100);
        duePasts(y, 0, 0, -4, -4);
    }

    /** Taken as the words say: whoever is not there has no STORY that could be so. */
    static void promise24_oneMoreThatIsSkipped() {
        told("(skipped likewise; more than there are: none)");
        ToldWhereItWas x = Boundary.men(1);
        rowOf(x, 0, 0, 0, -128);
        duePasts(x, 0, 0, -4, -4);
    }

    static void promise24_theLeastNumberIsSkipped() {
        told("(skipped likewise; more than there are: none)");
        ToldWhereItWas x = townOf("p009;p009;l0000;l1001;");
        for (int sort = 0; sort < 3; sort++) {
            rowOf(x, 0, sort, LEAST[sort], 1);
            duePasts(x, 0, 2048, 2, 4095);
            rowOf(x, 0, sort, LEAST[sort] + 1, 1);
            duePasts(x, 0, 0, -4, -4);
        }
        rowOf(x, 0, 1, -128, 1);
        duePasts(x, 0, 0, -4, -4);
    }

    static void promise24_oneAlone() {
        told("how many PASTS (0 .. 4095) make it so; the least; the greatest; -4");
        ToldWhereItWas x = Boundary.men(1);
        Boundary.teach(x, 0, 0, 0, 11);
        rowOf(x, 0, 0, 12);
        duePasts(x, 0, 1, 4095, 4095);
        rowOf(x, 0, 0, 0);
        duePasts(x, 0, 1, 0, 0);
        rowOf(x, 0, 0, 13);
        duePasts(x, 0, 0, -4, -4);
        rowOf(x, 0, 0, 1);
        duePasts(x, 0, 12, 1, 2048);
    }

    static void promise24_allOfThem() {
        told("a ROW tells STORIES of PEOPLE 0, 1, .. for a THING");
        ToldWhereItWas x = townOf("p009;p009;l0000;l1000;");
        rowOf(x, 0, 0, 1, 0);
        duePasts(x, 0, 0, -4, -4);
        rowOf(x, 0, 0, 1, 1);
        duePasts(x, 0, 2048, 1, 4095);
    }

    static void promise24_thePastStays() {
        told("how many PASTS (0 .. 4095) make it so");
        ToldWhereItWas x = townOf("t012343;p009;l0000;");
        rowOf(x, 0, 0, 1);
        String before = Boundary.picture(x);
        duePasts(x, 0, 2048, 1, 4095);
        Boundary.unchanged(x, before);
    }

    // ---- promise 25

    static void promise25_noSuchOne() {
        told("TWO for a THING; -4. -1 (one twice).");
        due("two(0, 1, 0, 1) of nobody", new ToldWhereItWas().two(0, 1, 0, 1), -1);
        ToldWhereItWas x = Boundary.men(2);
        for (int p : Boundary.outside(0, 1)) {
            due("two(" + p + ", 1, 0, 1)", x.two(p, 1, 0, 1), -1);
            due("two(0, " + p + ", 0, 1)", x.two(0, p, 0, 1), -1);
        }
        due("two(0, 1, 0, 1)", x.two(0, 1, 0, 1), 0);
        ToldWhereItWas y = Boundary.men(7);
        due("two(0, 6, 0, 1) of seven", y.two(0, 6, 0, 1), 0);
        due("two(6, 0, 0, 1) of seven", y.two(6, 0, 0, 1), 0);
        due("two(0, 7, 0, 1) of seven", y.two(0, 7, 0, 1), -1);
    }

    static void promise25_oneTwice() {
        told("TWO for a THING; -4. -1 (one twice).");
        ToldWhereItWas x = Boundary.men(2);
        due("two(0, 0, 0, 1)", x.two(0, 0, 0, 1), -1);
        due("two(1, 1, 0, 1)", x.two(1, 1, 0, 1), -1);
    }

    static void promise25_noSuchThing() {
        told("TWO for a THING; -4. -1 (one twice).");
        ToldWhereItWas x = townOf("p009;p009;t440959;");
        for (int t : Boundary.outside(0, 4)) {
            due("two(0, 1, " + t + ", 1)", x.two(0, 1, t, 1), -1);
        }
        due("two(0, 1, 9, 1)", x.two(0, 1, 9, 1), -1);
        due("two(0, 1, 4, 1)", x.two(0, 1, 4, 1), 10);
    }

    static void promise25_daysOutOfRange() {
        told("each has WORTH of what he OWNS behind n DAYS (1 .. 30)");
        ToldWhereItWas x = townOf("p009;p009;t040959;");
        for (int n : Boundary.outside(1, 30)) {
            due("two(0, 1, 0, " + n + ")", x.two(0, 1, 0, n), -1);
        }
        due("two(0, 1, 0, 1)", x.two(0, 1, 0, 1), 10);
        due("two(0, 1, 0, 30)", x.two(0, 1, 0, 30), 10);
    }

    static void promise25_behind30Days() {
        told("each has WORTH of what he OWNS behind n DAYS (1 .. 30)");
        // An OLD one who CARES has 11 FACTS on DAY 30 first: more than the 10 of the OWNER.
        ToldWhereItWas x = townOf("p109;p709;p009;t040959;o02;");
        Boundary.teach(x, 2, 0, 0, 9);
        due("two(0, 1, 0, 29)", x.two(0, 1, 0, 29), 0);
        due("two(0, 1, 0, 30)", x.two(0, 1, 0, 30), 10);
    }

    static void promise25_caringCosts1() {
        told("1 less for caring otherwise (1)");
        due("two(0, 1, 0, 1), WORTH 1", townOf("p009;p009;").two(0, 1, 0, 1), 0);
        due("two(0, 1, 0, 1), WORTH 2", townOf("p009;p009;t040952;").two(0, 1, 0, 1), 10);
        due("two(0, 1, 0, 1), WORTH 0", townOf("p009;p009;t040950;").two(0, 1, 0, 1), 0);
    }

    static void promise25_asHeDoes() {
        told("each CARES for a told THING from now (1) or as he does (0)");
        due("two(0, 1, 0, 1), he CARES for it already", townOf("p000;p009;t040959;").two(0, 1, 0, 1), 0);
        due("two(0, 1, 0, 1), he CARES for a better one", townOf("p001;p009;t040953;t140959;").two(0, 1, 0, 1), 1);
    }

    static void promise25_neitherTheOneTheOther() {
        told("the first pair (10 the one's and the other's) by which neither has more by another choice alone");
        due("0 and 0", Boundary.men(2).two(0, 1, 0, 1), 0);
        // The LIAR has it whatever the MAN does.
        due("0 and 1", townOf("p009;p209;t040959;").two(0, 1, 0, 1), 1);
        due("1 and 0", townOf("p009;p209;t040959;").two(1, 0, 0, 1), 10);
    }

    static void promise25_bothTheOneAndTheOther() {
        told("the first pair (10 the one's and the other's) by which neither has more by another choice alone");
        // The MAN (3) wins THING 1 by caring for it. The first one has THING 0 on DAY 14 only if he does not CARE for
        // it: if he does, he has it too early, FORGETS on DAY 7 what he learned, and loses it to 1, who keeps it.
        ToldWhereItWas x = townOf("d01;t010255;t140955;p130;p130;p409;p009;l0000;l0005;l0006;l1011;l2000;l2011;");
        due("two(3, 0, 1, 12)", x.two(3, 0, 1, 12), 10);
        due("two(3, 0, 1, 13)", x.two(3, 0, 1, 13), 11);
        due("two(0, 3, 1, 13)", x.two(0, 3, 1, 13), 11);
    }

    static void promise25_theFirstOfSeveralPairs() {
        told("the first pair (10 the one's and the other's) by which neither has more by another choice alone");
        due("all four are fit: 0 and 0", townOf("p709;p709;t040950;").two(0, 1, 0, 1), 0);
        // Three SERVANTS, of whom the last CARES: one more carer alone has it, two leave it to the last.
        ToldWhereItWas x = threeServants();
        due("nobody else CARES", x.ownerThen(2, 5), 2);
        x.cares(0, 2);
        due("0 alone CARES", x.ownerThen(2, 5), 0);
        x.cares(1, 2);
        due("both CARE", x.ownerThen(2, 5), 2);
        x.cares(0, 9);
        due("1 alone CARES", x.ownerThen(2, 5), 1);
        due("0 and 1 ahead of 1 and 0", threeServants().two(0, 1, 2, 5), 1);
        due("0 and 1 ahead of 1 and 0, the other way", threeServants().two(1, 0, 2, 5), 1);
    }

    private static ToldWhereItWas threeServants() {
        return townOf("t240955;p359;p319;p372;l0202;l1204;l1205;l2205;");
    }

    static void promise25_none() {
        told("by which neither has more by another choice alone; -4");
        // 1 has THING 1, and keeps it by caring; 0 wins it by caring alone: one of them always wants to do otherwise.
        ToldWhereItWas x = townOf("p009;p009;l1100;o11;t140955;");
        due("two(0, 1, 1, 2)", x.two(0, 1, 1, 2), -4);
        due("two(1, 0, 1, 2)", x.two(1, 0, 1, 2), -4);
    }

    static void promise25_dayMayPass999() {
        told("In mind, n DAYS on (0 .. 60) (DAY may pass 999 there)");
        ToldWhereItWas x = Boundary.townOnDay(999, "p109;p009;t040959;");
        due("two(0, 1, 0, 1): an OLD one LEARNS on DAY 1000", x.two(0, 1, 0, 1), 10);
    }

    static void promise25_inMindAlone() {
        told("each CARES for a told THING from now (1) or as he does (0)");
        ToldWhereItWas x = townOf("p009;p209;t140959;");
        String before = Boundary.picture(x);
        due("two(0, 1, 1, 30)", x.two(0, 1, 1, 30), 1);
        Boundary.unchanged(x, before);
    }

    // ---- promise 26

    private static void dueFloods(ToldWhereItWas x, int[] call, long above, long below) {
        String words = "floods(" + call[0] + ", " + call[1] + ", " + call[2] + ", " + call[3] + ", ";
        due(words + "0)", x.floods(call[0], call[1], call[2], call[3], 0), above);
        due(words + "1)", x.floods(call[0], call[1], call[2], call[3], 1), below);
    }

    static void promise26_noSuchOne() {
        told("part 0 above, 1 below the line. Refused as told: -1.");
        due("floods(0, 0, 1, 2, 0) of nobody", new ToldWhereItWas().floods(0, 0, 1, 2, 0), REFUSED);
        ToldWhereItWas x = townOf("p009;p000;");
        for (int p : Boundary.outside(0, 1)) {
            due("floods(" + p + ", 0, 1, 2, 0)", x.floods(p, 0, 1, 2, 0), REFUSED);
        }
        due("floods(9, 0, 1, 2, 0)", x.floods(9, 0, 1, 2, 0), REFUSED);
        due("floods(1, 0, 1, 2, 0)", x.floods(1, 0, 1, 2, 0), 1);
    }

    static void promise26_noSuchThing() {
        told("part 0 above, 1 below the line. Refused as told: -1.");
        ToldWhereItWas x = townOf("p004;");
        for (int t : Boundary.outside(0, 4)) {
            due("floods(0, " + t + ", 1, 2, 0)", x.floods(0, t, 1, 2, 0), REFUSED);
        }
        due("floods(0, 4, 1, 2, 0)", x.floods(0, 4, 1, 2, 0), 1);
        due("floods(0, 0, 1, 2, 0)", x.floods(0, 0, 1, 2, 0), 0);
    }

    static void promise26_daysOutOfRange() {
        told("on each of n DAYS (0 .. 7)");
        ToldWhereItWas x = townOf("p000;");
        for (int n : Boundary.outside(0, 7)) {
            due("floods(0, 0, " + n + ", 2, 0)", x.floods(0, 0, n, 2, 0), REFUSED);
        }
        dueFloods(x, new int[] {0, 0, 0, 2}, 0, 1);
        dueFloods(x, new int[] {0, 0, 7, 2}, 1, 1);
    }

    static void promise26_oddsOutOfRange() {
        told("with odds 1 in t (2 .. 20)");
        ToldWhereItWas x = townOf("p009;l0000;");
        for (int u : Boundary.outside(2, 20)) {
            due("floods(0, 0, 1, " + u + ", 1)", x.floods(0, 0, 1, u, 1), REFUSED);
        }
        due("floods(0, 0, 1, 0, 1)", x.floods(0, 0, 1, 0, 1), REFUSED);
        dueFloods(x, new int[] {0, 0, 1, 2}, 1, 2);
        dueFloods(x, new int[] {0, 0, 1, 20}, 19, 20);
    }

    static void promise26_noSuchPart() {
        told("part 0 above, 1 below the line. Refused as told: -1.");
        for (int part : Boundary.outside(0, 1)) {
            due("floods(0, 0, 1, 2, " + part + ")", Boundary.men(1).floods(0, 0, 1, 2, part), REFUSED);
        }
    }

    static void promise26_noDays() {
        told("on each of n DAYS (0 .. 7)");
        ToldWhereItWas x = townOf("p009;p009;o00;l1000;");
        dueFloods(x, new int[] {0, 0, 0, 20}, 1, 1);
        dueFloods(x, new int[] {1, 0, 0, 20}, 0, 1);
    }

    static void promise26_neverAndSure() {
        told("a fraction in least terms");
        ToldWhereItWas x = townOf("p000;p009;");
        dueFloods(x, new int[] {0, 0, 7, 20}, 1, 1);
        dueFloods(x, new int[] {1, 0, 7, 20}, 0, 1);
    }

    static void promise26_leastTerms() {
        told("a fraction in least terms");
        ToldWhereItWas x = townOf("p009;l0000;");
        // Only the first DAY matters.
        dueFloods(x, new int[] {0, 0, 6, 20}, 19, 20);
        dueFloods(x, new int[] {0, 0, 7, 2}, 1, 2);
    }

    /** Seven floods leave the OWNER nothing, and the other, whose first 7 FACTS are FALSE, a TRUE one. */
    private static ToldWhereItWas sevenFloods() {
        ToldWhereItWas x = townOf("t039681;p009;p009;o00;");
        Boundary.teach(x, 0, 0, 0, 1);
        Boundary.teach(x, 0, 0, 7, 11);
        Boundary.teach(x, 1, 0, 0, 6);
        x.learns(1, 0, 11);
        return x;
    }

    static void promise26_eachOf7DaysByItself() {
        told("on each of n DAYS (0 .. 7), by itself");
        ToldWhereItWas x = sevenFloods();
        dueFloods(x, new int[] {1, 0, 6, 20}, 0, 1);
        dueFloods(x, new int[] {1, 0, 7, 2}, 1, 128);
        dueFloods(x, new int[] {1, 0, 7, 20}, 1, 1280000000L);
        dueFloods(x, new int[] {0, 0, 7, 20}, 1279999999L, 1280000000L);
    }

    static void promise26_aheadOfTheDay() {
        told("ahead of it, all FORGET the least FACT they KNOW of each THING");
        dueFloods(townOf("p009;l0000;"), new int[] {0, 0, 1, 3}, 2, 3);
        dueFloods(townOf("p000;t000011;l0000;"), new int[] {0, 0, 1, 3}, 1, 1);
    }

    static void promise26_allForgetOfEachThing() {
        told("all FORGET the least FACT they KNOW of each THING");
        ToldWhereItWas x = Boundary.men(7);
        x.learns(6, 4, 11);
        dueFloods(x, new int[] {6, 4, 1, 4}, 3, 4);
        // The OWNER FORGETS his one FACT by a flood, and the other one that is FALSE.
        dueFloods(townOf("t000061;p009;p009;o00;l0001;l1000;l1002;"), new int[] {1, 0, 1, 4}, 1, 4);
    }

    static void promise26_theLeastFact() {
        told("all FORGET the least FACT they KNOW of each THING");
        // FACT 0 is FALSE: its loss does not matter; the greatest one's would.
        dueFloods(townOf("t020481;p009;l0000;l0011;"), new int[] {0, 0, 1, 5}, 1, 1);
        dueFloods(townOf("t000011;p009;l0000;l0011;"), new int[] {0, 0, 1, 5}, 4, 5);
    }

    static void promise26_dayMayPass999() {
        told("In mind, n DAYS on (0 .. 60) (DAY may pass 999 there)");
        ToldWhereItWas x = Boundary.townOnDay(999, "p100;");
        dueFloods(x, new int[] {0, 0, 1, 2}, 1, 1);
    }

    static void promise26_inMindAlone() {
        told("how likely one is the OWNER of a THING behind these");
        ToldWhereItWas x = sevenFloods();
        String before = Boundary.picture(x);
        dueFloods(x, new int[] {1, 0, 7, 2}, 1, 128);
        Boundary.unchanged(x, before);
    }

    // ---- promise 27

    static void promise27_noSuchOne() {
        told("SHARE; part likewise. Refused as told: -1.");
        due("share(0, 0) of nobody", new ToldWhereItWas().share(0, 0), REFUSED);
        ToldWhereItWas x = townOf("p009;p009;o01;");
        for (int p : Boundary.outside(0, 1)) {
            due("share(" + p + ", 0)", x.share(p, 0), REFUSED);
        }
        due("share(9, 0)", x.share(9, 0), REFUSED);
        due("share(1, 0)", x.share(1, 0), 1);
        due("share(1, 1)", x.share(1, 1), 5);
    }

    static void promise27_noSuchPart() {
        told("SHARE; part likewise. Refused as told: -1.");
        for (int part : Boundary.outside(0, 1)) {
            due("share(0, " + part + ")", Boundary.men(1).share(0, part), REFUSED);
        }
    }

    static void promise27_nothing() {
        told("SHARE of WORTH one OWNS of all WORTH: a fraction in least terms");
        due("share(0, 0) of nothing", Boundary.men(1).share(0, 0), 0);
        due("share(0, 1) of nothing", Boundary.men(1).share(0, 1), 1);
        ToldWhereItWas x = townOf("p009;o00;t040950;");
        due("share(0, 0) of a THING of WORTH 0", x.share(0, 0), 0);
        due("share(0, 1) of a THING of WORTH 0", x.share(0, 1), 1);
    }

    static void promise27_all() {
        told("SHARE of WORTH one OWNS of all WORTH: a fraction in least terms");
        ToldWhereItWas x = townOf("p009;o00;o10;o20;o30;o40;t040959;t140959;t240959;t340959;t440959;");
        due("share(0, 0) of all", x.share(0, 0), 1);
        due("share(0, 1) of all", x.share(0, 1), 1);
        x.gives(4, 9);
        due("share(0, 0) of 36 in 45", x.share(0, 0), 4);
        due("share(0, 1) of 36 in 45", x.share(0, 1), 5);
    }

    static void promise27_allIs0() {
        told("(0 by 1, if all is 0)");
        ToldWhereItWas x = townOf("p009;o00;t040950;t140950;t240950;t340950;t440950;");
        due("share(0, 0)", x.share(0, 0), 0);
        due("share(0, 1)", x.share(0, 1), 1);
    }

    // ---- promise 28

    static void promise28_noSuchShelf() {
        told("FORGED by the ROW in SHELF d; -4. -1, -11, -12.");
        ToldWhereItWas x = new ToldWhereItWas();
        for (int d : Boundary.outside(0, 7)) {
            due("forged(" + d + ")", x.forged(d), -1);
        }
        x.row(0, 0, 1);
        x.row(7, 0, 1);
        due("forged(0)", x.forged(0), 0);
        due("forged(7)", x.forged(7), 0);
    }

    static void promise28_nothingThereOrOne() {
        told("FORGED by the ROW in SHELF d; -4. -1, -11, -12.");
        ToldWhereItWas x = new ToldWhereItWas();
        due("forged(0)", x.forged(0), -11);
        x.keep(0, 1, 0, 0);
        due("forged(0)", x.forged(0), -12);
    }

    static void promise28_nothingTold() {
        told("the first that is not so (no such THING, too); -4");
        ToldWhereItWas x = new ToldWhereItWas();
        x.row(0, 0, 0);
        due("forged(0)", x.forged(0), -4);
    }

    static void promise28_noSuchThing() {
        told("the first that is not so (no such THING, too); -4");
        ToldWhereItWas x = townOf("p009;p009;o01;o40;");
        for (int sort = 0; sort < 3; sort++) {
            rowOf(x, 0, sort, 1, 9, 9, 9, 0);
            due("forged(0) of five", x.forged(0), -4);
            rowOf(x, 0, sort, 1, 9, 9, 9, 0, 9);
            due("forged(0) of six", x.forged(0), 5);
            x.row(0, sort, 100);
            due("forged(0) of a hundred", x.forged(0), 0);
        }
    }

    static void promise28_theFirstAndTheLastThing() {
        told("a ROW tells OWNERS of THINGS 0, 1, .. (9 nobody): the first that is not so");
        ToldWhereItWas x = townOf("p009;p009;o01;o40;");
        rowOf(x, 0, 0, 0, 9, 9, 9, 1);
        due("forged(0), the first", x.forged(0), 0);
        rowOf(x, 0, 0, 1, 9, 9, 9, 1);
        due("forged(0), the last", x.forged(0), 4);
        rowOf(x, 0, 0, 1, 9, 9, 9, 9);
        due("forged(0), nobody", x.forged(0), 4);
        rowOf(x, 0, 0, 1, -4, 9, 9, 9);
        due("forged(0), -4 is not nobody", x.forged(0), 1);
    }

    static void promise28_nothingIsSkipped() {
        told("a ROW tells OWNERS of THINGS 0, 1, .. (9 nobody): the first that is not so");
        ToldWhereItWas x = new ToldWhereItWas();
        for (int sort = 0; sort < 3; sort++) {
            rowOf(x, 0, sort, 9, LEAST[sort]);
            due("forged(0)", x.forged(0), 1);
        }
    }

    // ---- promise 29

    static void promise29_noSuchShelf() {
        told("JUDGED by the ROW in SHELF d for one; -4. -1, -11, -12.");
        ToldWhereItWas x = Boundary.men(1);
        for (int d : Boundary.outside(0, 7)) {
            due("judge(" + d + ", 0)", x.judge(d, 0), -1);
        }
        rowOf(x, 7, 0, 1);
        due("judge(7, 0)", x.judge(7, 0), 0);
    }

    static void promise29_noSuchOne() {
        told("JUDGED by the ROW in SHELF d for one; -4. -1, -11, -12.");
        ToldWhereItWas x = Boundary.men(2);
        x.row(0, 0, 1);
        for (int p : Boundary.outside(0, 1)) {
            due("judge(0, " + p + ")", x.judge(0, p), -1);
        }
        due("judge(0, 9)", x.judge(0, 9), -1);
        due("judge(0, 1)", x.judge(0, 1), -4);
        ToldWhereItWas y = new ToldWhereItWas();
        y.row(0, 0, 1);
        due("judge(0, 0) of nobody", y.judge(0, 0), -1);
    }

    static void promise29_nothingThereOrOne() {
        told("JUDGED by the ROW in SHELF d for one; -4. -1, -11, -12.");
        ToldWhereItWas x = Boundary.men(1);
        due("judge(0, 0)", x.judge(0, 0), -11);
        x.keep(0, 1, 0, 0);
        due("judge(0, 0)", x.judge(0, 0), -12);
    }

    static void promise29_whichRefusalGoesFirst() {
        told("JUDGED by the ROW in SHELF d for one; -4. -1, -11, -12.");
        ToldWhereItWas x = Boundary.men(1);
        x.keep(1, 1, 0, 0);
        due("judge(0, 1): no such one, nothing there", x.judge(0, 1), -1);
        due("judge(1, 1): no such one, one there", x.judge(1, 1), -1);
    }

    static void promise29_nothingTold() {
        told("JUDGED: a ROW tells how many THINGS are OWNED by one behind 0, 1, .. DAYS: the first that is not so");
        ToldWhereItWas x = townOf("p009;o00;");
        x.row(0, 0, 0);
        due("judge(0, 0)", x.judge(0, 0), -4);
    }

    static void promise29_behind0Days() {
        told("behind 0, 1, .. DAYS: the first that is not so");
        ToldWhereItWas x = townOf("p000;o10;o20;o30;o40;");
        rowOf(x, 0, 0, 4, 5);
        due("judge(0, 0) of 4, 5", x.judge(0, 0), -4);
        rowOf(x, 0, 0, 5, 5);
        due("judge(0, 0) of 5, 5", x.judge(0, 0), 0);
        rowOf(x, 0, 0, 4, 4);
        due("judge(0, 0) of 4, 4", x.judge(0, 0), 1);
    }

    static void promise29_theLeastNumberIsSkipped() {
        told("the first that is not so (skipped likewise); -4");
        ToldWhereItWas x = townOf("p000;");
        for (int sort = 0; sort < 3; sort++) {
            rowOf(x, 0, sort, LEAST[sort], LEAST[sort], 1, 2);
            due("judge(0, 0), the least of sort " + sort, x.judge(0, 0), 3);
            rowOf(x, 0, sort, LEAST[sort], LEAST[sort] + 1);
            due("judge(0, 0), the least but one of sort " + sort, x.judge(0, 0), 1);
        }
        rowOf(x, 0, 1, -128);
        due("judge(0, 0), the least byte as a short", x.judge(0, 0), 0);
    }

    static void promise29_aFullRow() {
        told("0 .. 100 elements");
        ToldWhereItWas x = townOf("d02;p109;p009;o00;l1000;");
        Boundary.teach(x, 0, 0, 0, 8);
        int[] owned = new int[100];
        java.util.Arrays.fill(owned, 0, 61, 1);
        rowOf(x, 0, 0, owned);
        due("judge(0, 0), lost behind 61 DAYS", x.judge(0, 0), -4);
        x.put(0, 61, 1);
        due("judge(0, 0), not lost behind 61 DAYS", x.judge(0, 0), 61);
        x.put(0, 61, 0);
        x.put(0, 99, 1);
        due("judge(0, 0), won again behind 99 DAYS", x.judge(0, 0), 99);
    }

    static void promise29_dayMayPass999() {
        told("In mind, n DAYS on (0 .. 60) (DAY may pass 999 there)");
        ToldWhereItWas x = Boundary.townOnDay(999, "p109;p009;o00;l0000;l1000;");
        rowOf(x, 0, 0, 1, 1, 0, 0);
        due("judge(0, 0) on DAY 999, lost on DAY 1001", x.judge(0, 0), -4);
    }

    static void promise29_inMindAlone() {
        told("In mind, n DAYS on (0 .. 60)");
        ToldWhereItWas x = townOf("p000;p101;o01;");
        rowOf(x, 0, 0, 0, 1);
        String before = Boundary.picture(x);
        due("judge(0, 0)", x.judge(0, 0), -4);
        Boundary.unchanged(x, before);
    }

    // ---- promise 30

    static void promise30_yearsOutOfRange() {
        told("YEARS with a seed z: n (1 .. 20), each from now");
        ToldWhereItWas x = townOf("p709;o00;");
        for (int n : Boundary.outside(1, 20)) {
            due("years(" + n + ", 1, 0)", x.years(n, 1, 0), -1);
        }
        due("years(-1, 1, 0)", x.years(-1, 1, 0), -1);
        due("years(1, 1, 0)", x.years(1, 1, 0), 1);
        due("years(20, 1, 0)", x.years(20, 1, 0), 20);
    }

    static void promise30_noSuchWhat() {
        told("YEARS: OWNED (what 0), other OWNERS (1). -1.");
        for (int what : Boundary.outside(0, 1)) {
            due("years(1, 1, " + what + ")", Boundary.men(1).years(1, 1, what), -1);
        }
    }

    static void promise30_nobodyThere() {
        told("OWNED THINGS together; how many of these have another OWNER than now, together");
        due("years(20, 5, 0)", new ToldWhereItWas().years(20, 5, 0), 0);
        due("years(20, 5, 1)", new ToldWhereItWas().years(20, 5, 1), 0);
    }

    static void promise30_nothingAndAllAreOwned() {
        told("OWNED THINGS together; how many of these have another OWNER than now, together");
        ToldWhereItWas x = townOf("p709;p709;o00;o11;o20;o31;o40;");
        due("years(20, 5, 0)", x.years(20, 5, 0), 100);
        due("years(20, 5, 1)", x.years(20, 5, 1), 0);
    }

    static void promise30_anotherOwnerThanNow() {
        told("how many of these have another OWNER than now");
        // The MAN wins what he CARES for, whoever has it now: a SILENT one, nobody or he himself.
        ToldWhereItWas x = townOf("p009;p709;o01;o11;o21;o31;o41;");
        due("years(20, 5, 0), all a SILENT one's", x.years(20, 5, 0), 100);
        due("years(20, 5, 1), all a SILENT one's", x.years(20, 5, 1), 20);
        for (int t = 0; t < 5; t++) {
            x.gives(t, 9);
        }
        due("years(20, 5, 0), all nobody's", x.years(20, 5, 0), 20);
        due("years(20, 5, 1), all nobody's", x.years(20, 5, 1), 20);
        for (int t = 0; t < 5; t++) {
            x.gives(t, 0);
        }
        due("years(20, 5, 0), all his", x.years(20, 5, 0), 100);
        due("years(20, 5, 1), all his", x.years(20, 5, 1), 0);
    }

    /** The draws of a seed, told without any wrap-around but by a remainder. */
    private static int[] draws(int z, int n) {
        BigInteger all = BigInteger.ONE.shiftLeft(32);
        BigInteger seed = BigInteger.valueOf(z).mod(all);
        int[] found = new int[n];
        for (int i = 0; i < n; i++) {
            seed = seed.multiply(BigInteger.valueOf(1103515245)).add(BigInteger.valueOf(12345)).mod(all);
            found[i] = seed.mod(BigInteger.ONE.shiftLeft(31)).divide(BigInteger.valueOf(65536)).intValue();
        }
        return found;
    }

    /** A MAN who KNOWS one FACT of a THING has it, if it is TRUE then, and what he CARES for. */
    private static void dueOfSeed(int z) {
        int[] drawn = draws(z, 6);
        int care = drawn[5] % 5;
        for (int t = 0; t < 5; t++) {
            for (int fact = 0; fact < 12; fact++) {
                ToldWhereItWas x = Boundary.men(1);
                x.learns(0, t, fact);
                boolean more = t != care && (drawn[t] % 4096 >> fact & 1) == 1;
                boolean cared = drawn[care] % 4096 != 0;
                due("years(1, " + z + ", 0), FACT " + fact + " of THING " + t, x.years(1, z, 0), (cared ? 1 : 0) + (more ? 1 : 0));
            }
        }
        ToldWhereItWas y = townOf("p009;p709;o01;o11;o21;o31;o41;");
        for (int t = 0; t < 5; t++) {
            y.gives(t, 0);
            due("years(1, " + z + ", 1), THING " + t + " is his", y.years(1, z, 1), t == care ? 0 : 1);
            y.gives(t, 1);
        }
    }

    static void promise30_seedsOfAllSizes() {
        told("z becomes z times 1103515245 plus 12345 (an int); (z without its sign's bit over 65536, cut) modulo n");
        int[] seeds = {0, 1, -1, 65535, 65536, -65536, 12345, -12345, Boundary.GREATEST_INT, Boundary.LEAST_INT, 1103515245};
        for (int z : seeds) {
            dueOfSeed(z);
        }
    }

    static void promise30_theLastOfSevenDrawsToo() {
        told("CARES of each of PEOPLE, by numbers, a DRAW below 5");
        for (int z = 0; z < 12; z++) {
            ToldWhereItWas x = townOf("p700;p700;p700;p700;p700;p700;p000;");
            int care = draws(z, 12)[11] % 5;
            for (int t = 0; t < 5; t++) {
                x.gives(t, 0);
                due("years(1, " + z + ", 0), THING " + t + " is owned", x.years(1, z, 0), t == care ? 1 : 2);
                x.gives(t, 9);
            }
        }
    }

    static void promise30_theNextYearDrawsOn() {
        told("YEARS with a seed z: n (1 .. 20), each from now");
        for (int z = 0; z < 12; z++) {
            int[] drawn = draws(z, 120);
            for (int n = 2; n <= 20; n += 9) {
                ToldWhereItWas x = Boundary.men(1);
                x.gives(0, 0);
                int others = 0;
                for (int year = 0; year < n; year++) {
                    others += drawn[6 * year + 5] % 5 == 0 ? 0 : 1;
                }
                due("years(" + n + ", " + z + ", 0)", x.years(n, z, 0), n + others);
                due("years(" + n + ", " + z + ", 1)", x.years(n, z, 1), others);
            }
        }
    }

    /** On DAYS 7 and 14 an OLD one FORGETS his FACTS of THING 1, and loses it on DAY 14 to a MAN. */
    static void promise30_8Days() {
        told("then 8 DAYS");
        // By seed 1 FACTS 1 and 2 of THING 1 are TRUE, and nobody CARES for it.
        String people = "p109;l0101;l0102;o10;p009;l1101;";
        int toDay13 = Boundary.townOnDay(5, people).years(1, 1, 1);
        int toDay14 = Boundary.townOnDay(6, people).years(1, 1, 1);
        due("years(1, 1, 1), to DAY 14 more than to DAY 13 by", toDay14 - toDay13, 1);
    }

    static void promise30_dayMayPass999() {
        told("In mind, n DAYS on (0 .. 60) (DAY may pass 999 there)");
        ToldWhereItWas x = Boundary.townOnDay(999, "p009;");
        due("years(20, 5, 0)", x.years(20, 5, 0), 20);
        due("count(1)", x.count(1), 999);
    }

    static void promise30_inMindAlone() {
        told("n (1 .. 20), each from now");
        ToldWhereItWas x = townOf("p000;p101;o01;");
        String before = Boundary.picture(x);
        int first = x.years(20, 77, 0);
        Boundary.unchanged(x, before);
        due("years(20, 77, 0) once more", x.years(20, 77, 0), first);
    }

    // ---- promise 31

    static void promise31_itsDay() {
        told("THE IMAGE is taken: DAY.");
        due("image() of nobody", new ToldWhereItWas().image(), 0);
        due("image() on DAY 999", Boundary.townOnDay(999, "p009;").image(), 999);
    }

    static void promise31_theLastOneIsIt() {
        told("THE IMAGE is taken: DAY.");
        ToldWhereItWas x = townOf("p000;");
        x.image();
        x.days(2);
        due("image() again", x.image(), 2);
        x.days(3);
        due("restore()", x.restore(), 2);
    }

    static void promise31_nothingChanges() {
        told("THE IMAGE is taken: DAY.");
        ToldWhereItWas x = townOf("p000;p101;o01;");
        x.keep(0, 1, 2, 3);
        String before = Boundary.picture(x);
        x.image();
        Boundary.unchanged(x, before);
    }

    // ---- promise 32

    static void promise32_thereIsNone() {
        told("-3 there is none.");
        ToldWhereItWas x = townOf("p000;d02;");
        String before = Boundary.picture(x);
        due("restore()", x.restore(), -3);
        Boundary.unchanged(x, before);
    }

    static void promise32_oneOfNobody() {
        told("RESTORED all is as it was then");
        ToldWhereItWas x = new ToldWhereItWas();
        String before = Boundary.picture(x);
        x.image();
        Boundary.tell(x, "p000;t200008;l0411;o40;d07;");
        x.keep(7, 0, 0, 0);
        due("restore()", x.restore(), 0);
        Boundary.unchanged(x, before);
    }

    static void promise32_allIsAsItWas() {
        told("THE IMAGE: all that there is, but SHELVES (and THE IMAGE); RESTORED all is as it was then.");
        ToldWhereItWas x = Boundary.men(7);
        Boundary.tell(x, "t200008;t412347;l6411;l0000;o46;o00;c64;c00;d03;");
        x.keep(7, 0, 0, 0);
        String before = Boundary.picture(x);
        x.image();
        Boundary.tell(x, "t240951;t400001;l6410;l0001;o49;o01;c60;c04;d09;");
        x.keep(7, 0, 0, 0);
        due("restore()", x.restore(), 3);
        Boundary.unchanged(x, before);
    }

    static void promise32_theImageStays() {
        told("THE IMAGE: all that there is, but SHELVES (and THE IMAGE)");
        ToldWhereItWas x = townOf("p000;d02;");
        x.image();
        x.days(1);
        due("restore()", x.restore(), 2);
        x.days(5);
        x.learns(0, 4, 4);
        due("restore() again", x.restore(), 2);
        due("story(0, 4, 0)", x.story(0, 4, 0), 0);
        due("story(0, 0, 0)", x.story(0, 0, 0), 3);
    }

    static void promise32_shelvesStay() {
        told("when THE IMAGE is RESTORED, SHELVES stay as they are");
        ToldWhereItWas x = townOf("p000;");
        x.keep(1, 1, 0, 1);
        rowOf(x, 2, 1, 5);
        x.image();
        x.keep(0, 1, 2, 3);
        x.keep(1, 0, 0, 0);
        x.put(2, 0, 6);
        x.restore();
        due("cost(0)", x.cost(0), 5);
        due("cost(1)", x.cost(1), -11);
        due("element(2, 0)", x.element(2, 0), 6);
    }

    // ---- promise 33

    static void promise33_noSuchWhat() {
        told("-1 for others.");
        for (int what : Boundary.outside(0, 4)) {
            due("count(" + what + ")", new ToldWhereItWas().count(what), -1);
        }
    }

    static void promise33_nobodyAndSeven() {
        told("0 PEOPLE, 1 DAY, 2 OWNED THINGS (bits), 3 all WORTH, 4 how many FACTS each KNOWS of each THING, all together");
        due("count(0) of nobody", new ToldWhereItWas().count(0), 0);
        due("count(0) of seven", Boundary.men(7).count(0), 7);
    }

    static void promise33_firstAndLastDay() {
        told("DAY (0 .. 999; 0 at first)");
        due("count(1) at first", new ToldWhereItWas().count(1), 0);
        due("count(1) at last", Boundary.townOnDay(999, "p009;").count(1), 999);
    }

    static void promise33_noneAndAllOwned() {
        told("2 OWNED THINGS (bits)");
        ToldWhereItWas x = townOf("p009;");
        due("count(2) of none", x.count(2), 0);
        for (int t = 0; t < 5; t++) {
            x.gives(t, 0);
        }
        due("count(2) of all", x.count(2), 31);
        x.gives(0, 9);
        x.gives(4, 9);
        due("count(2) without the first and the last", x.count(2), 14);
    }

    static void promise33_noAndAllWorth() {
        told("3 all WORTH");
        due("count(3) of 0", townOf("t040950;t140950;t240950;t340950;t440950;").count(3), 0);
        due("count(3) of 9", townOf("t040959;t140959;t240959;t340959;t440959;").count(3), 45);
    }

    static void promise33_noneAndAllFacts() {
        told("4 how many FACTS each KNOWS of each THING, all together");
        due("count(4) of nobody", new ToldWhereItWas().count(4), 0);
        ToldWhereItWas x = Boundary.men(7);
        due("count(4) of none", x.count(4), 0);
        for (int t = 0; t < 5; t++) {
            Boundary.teach(x, 0, t, 0, 11);
            Boundary.teach(x, 6, t, 0, 11);
        }
        due("count(4) of all that two could KNOW", x.count(4), 120);
    }
}
