/** Each promise of the document by answers worked out by hand: ordinary inputs, edges, wrong inputs. */
public final class PromiseTest {
    private static final int MAN = 0;
    private static final int OLD = 1;
    private static final int LIAR = 2;
    private static final int SERVANT = 3;
    private static final int DOWAGER = 4;
    private static final int PEDLAR = 5;
    private static final int BURGLAR = 6;
    private static final int SILENT = 7;
    private static final int LEAST_INT = Integer.MIN_VALUE;

    private static int wrong = 0;
    private static int promise = 0;

    public static void main(String[] args) {
        promises1To11();
        promises12To22();
        promises23To33();
        promises34To40();
        if (wrong != 0) {
            System.out.println(wrong + " answers are not as due");
            System.exit(1);
        }
    }

    private static void promises1To11() {
        promise = 1; newObject();
        promise = 2; town(); townFaultsOfGrammar(); townFaultsOfSense(); townKeepsAllOrNothing();
        promise = 3; one();
        promise = 4; thing();
        promise = 5; story(); storyOfEachKind();
        promise = 6; comes();
        promise = 7; learns();
        promise = 8; cares();
        promise = 9; gives();
        promise = 10; past();
        promise = 11; days(); learningOfEachKind(); forgetting(); ownersByDays();
    }

    private static void promises12To22() {
        promise = 12; ownerThen();
        promise = 13; storyThen();
        promise = 14; ownsThen();
        promise = 15; when();
        promise = 16; loses();
        promise = 17; lookAfter();
        promise = 18; win();
        promise = 19; ask();
        promise = 20; care();
        promise = 21; richest(); still();
        promise = 22; common();
    }

    private static void promises23To33() {
        promise = 23; whatIs();
        promise = 24; whichPast();
        promise = 25; two();
        promise = 26; floods();
        promise = 27; share();
        promise = 28; forged();
        promise = 29; judge();
        promise = 30; years();
        promise = 31; image();
        promise = 32; restore();
        promise = 33; count();
    }

    private static void promises34To40() {
        promise = 34; keep();
        promise = 35; row();
        promise = 36; put();
        promise = 37; element();
        promise = 38; copy();
        promise = 39; cost();
        promise = 40; toss();
    }

    // ---- what the tests need

    private static void due(String what, long got, long want) {
        if (got != want) {
            wrong++;
            System.out.println("promise " + promise + ": " + what + " answered " + got + ", due is " + want);
        }
    }

    private static int tell(ToldWhereItWas x, String text) {
        rowOf(x, 7, 0, new int[text.length()]);
        for (int i = 0; i < text.length(); i++) {
            x.put(7, i, text.charAt(i));
        }
        return x.town(7);
    }

    private static ToldWhereItWas townOf(String text) {
        ToldWhereItWas x = new ToldWhereItWas();
        if (tell(x, text) < 0) {
            wrong++;
            System.out.println("promise " + promise + ": the text " + text + " was refused");
        }
        return x;
    }

    private static void rowOf(ToldWhereItWas x, int d, int sort, int... elements) {
        x.row(d, sort, elements.length);
        for (int i = 0; i < elements.length; i++) {
            x.put(d, i, elements[i]);
        }
    }

    /** 0 nothing is thrown, 1 IllegalArgumentException, 2 IllegalStateException. */
    private static int thrownByElement(ToldWhereItWas x, int d, int i) {
        try {
            x.element(d, i);
            return 0;
        } catch (IllegalArgumentException e) {
            return 1;
        } catch (IllegalStateException e) {
            return 2;
        }
    }

    // ---- promises 1 to 11

    private static void newObject() {
        ToldWhereItWas x = new ToldWhereItWas();
        due("PEOPLE", x.count(0), 0);
        due("DAY", x.count(1), 0);
        due("OWNED THINGS", x.count(2), 0);
        due("all WORTH", x.count(3), 5);
        due("FACTS known", x.count(4), 0);
        for (int t = 0; t < 5; t++) {
            due("TRUE", x.thing(t, 0), 4095);
            due("WORTH", x.thing(t, 1), 1);
            due("OWNER", x.thing(t, 2), -4);
        }
        for (int d = 0; d < 8; d++) {
            due("nothing on a shelf", x.put(d, 0, 0), -11);
        }
        due("no image", x.restore(), -3);
        due("nobody", x.one(0, 0), -1);
    }

    private static void town() {
        ToldWhereItWas x = new ToldWhereItWas();
        due("a text of all statements", tell(x, "t200053;p050;p169;l0203;o40;o49;c13;d01;"), 8);
        due("PEOPLE", x.count(0), 2);
        due("DAY", x.count(1), 1);
        due("TRUE", x.thing(2, 0), 5);
        due("WORTH", x.thing(2, 1), 3);
        due("KIND", x.one(1, 0), OLD);
        due("FIGURE", x.one(1, 1), 6);
        due("CARES", x.one(1, 2), 3);
        due("a FACT told", x.story(0, 2, 0), 8);
        due("the OWNER by the DAY", x.thing(0, 2), 0);
        due("OWNER nobody again", x.thing(4, 2), -4);
        due("the same text once more", x.town(7), 8);
        due("PEOPLE twice", x.count(0), 4);
        due("a FACT told again is not known", x.story(0, 2, 0), 0);
        due("no such shelf", x.town(-1), -1);
        due("no such shelf", x.town(8), -1);
        due("nothing there", x.town(0), -11);
        x.keep(0, 1, MAN, 1);
        due("one, no ROW", x.town(0), -12);
        x.row(0, 1, 4);
        due("a ROW of shorts", x.town(0), -12);
        x.row(0, 2, 4);
        due("a ROW of ints", x.town(0), -12);
    }

    private static void townFaultsOfGrammar() {
        String[] texts = {"", ";", "x", "T000001;", "t", "t0", "t00000a;", "t0000011", "t000001", "p050", "p05a;",
            "p0500;", "p050;x", "p050; ", "p050;;", "l000;", "o0;", "c0a;", "d1;", "d01;d1;", "d01;d", "p800;x", "-",
            "p050;" + (char) 0, "d0/;", "d0:;"};
        int[] places = {0, 0, 0, 0, 1, 2, 6, 7, 7, 4, 3,
            4, 5, 5, 5, 4, 2, 2, 2, 6, 5, 5, 0,
            5, 2, 2};
        for (int i = 0; i < texts.length; i++) {
            ToldWhereItWas x = new ToldWhereItWas();
            due("the text \"" + texts[i] + "\"", tell(x, texts[i]), -1000 - places[i]);
            due("nothing comes of it", x.count(0) + x.count(1), 0);
        }
    }

    private static void townFaultsOfSense() {
        String[] texts = {"p800;", "p900;", "p005;", "p008;", "t500001;", "t040961;", "t099991;", "l0000;", "p000;l0012;",
            "p000;l0500;", "p000;l1000;", "o00;", "o59;", "o08;", "p000;o01;", "c00;", "p000;c05;", "p000;c10;", "d00;",
            "d61;", "p000;p000;p000;p000;p000;p000;p000;p000;", "d01;d99;d00;"};
        int[] places = {0, 0, 0, 0, 0, 0, 0, 0, 5,
            5, 5, 0, 0, 0, 5, 0, 5, 5, 0,
            0, 35, 4};
        for (int i = 0; i < texts.length; i++) {
            ToldWhereItWas x = new ToldWhereItWas();
            due("the text " + texts[i], tell(x, texts[i]), -2000 - places[i]);
            due("nothing comes of it", x.count(0) + x.count(1), 0);
        }
        String[] fine = {"p799;", "p094;", "t440959;", "t000000;", "p000;l0011;", "o09;", "p000;o00;", "p000;c09;",
            "d60;", "p000;p000;p000;p000;p000;p000;p000;"};
        int[] statements = {1, 1, 1, 1, 2, 1, 2, 2, 1, 7};
        for (int i = 0; i < fine.length; i++) {
            due("the text " + fine[i], tell(new ToldWhereItWas(), fine[i]), statements[i]);
        }
    }

    private static void townKeepsAllOrNothing() {
        String sixteen = "d60;d60;d60;d60;d60;d60;d60;d60;d60;d60;d60;d60;d60;d60;d60;d60;";
        ToldWhereItWas x = new ToldWhereItWas();
        due("DAY above 999", tell(x, sixteen + "d40;"), -2064);
        due("no DAY went", x.count(1), 0);
        due("up to DAY 999", tell(x, sixteen + "d39;"), 17);
        String longest = "c00;".repeat(25);
        due("100 bytes", tell(new ToldWhereItWas(), "p009;" + longest.substring(0, 95)), -1100);
        due("100 bytes", tell(new ToldWhereItWas(), "p009;" + longest.substring(0, 92) + "p00"), -1100);
        due("100 bytes", tell(new ToldWhereItWas(), "p009;l0000;" + longest.substring(0, 88) + "d"), -1100);
        due("100 bytes of statements", tell(townOf("p009;"), longest), 25);
        due("DAY", x.count(1), 999);
        due("one DAY more", tell(x, "p000;d01;"), -2005);
        due("nobody came", x.count(0), 0);
        ToldWhereItWas y = townOf("p000;");
        due("a fault at the end", tell(y, "t000009;l0003;o20;c03;p111;c05;"), -2027);
        due("TRUE as it was", y.thing(0, 0), 4095);
        due("WORTH as it was", y.thing(0, 1), 1);
        due("KNOWS as it was", y.story(0, 0, 0), 0);
        due("OWNER as it was", y.thing(2, 2), -4);
        due("CARES as it was", y.one(0, 2), 0);
        due("PEOPLE as they were", y.count(0), 1);
    }

    private static void one() {
        ToldWhereItWas x = townOf("p370;p189;p592;p623;p771;p431;p219;o10;o40;o21;");
        due("KIND", x.one(0, 0), SERVANT);
        due("FIGURE", x.one(0, 1), 7);
        due("CARES", x.one(0, 2), 0);
        due("CARES for nothing", x.one(1, 2), 9);
        due("OWNS", x.one(0, 3), 2 + 16);
        due("OWNS", x.one(1, 3), 4);
        due("OWNS nothing", x.one(2, 3), 0);
        due("a SERVANT who is not the OWNER LEARNS", x.one(0, 4), 2);
        x.cares(0, 1);
        due("a SERVANT who is the OWNER LEARNS", x.one(0, 4), 1);
        due("who CARES for nothing LEARNS", x.one(1, 4), 0);
        due("a PEDLAR LEARNS", x.one(2, 4), 4);
        due("a BURGLAR LEARNS", x.one(3, 4), 3);
        due("a SILENT one LEARNS", x.one(4, 4), 0);
        due("a DOWAGER LEARNS on DAY 1", x.one(5, 4), 0);
        x.days(1);
        due("a DOWAGER LEARNS on DAY 2", x.one(5, 4), 1);
        due("a LIAR who CARES for nothing", x.one(6, 4), 0);
        x.cares(6, 0);
        due("a LIAR LEARNS", x.one(6, 4), 2);
        due("no such one", x.one(7, 0), -1);
        due("no such one", x.one(-1, 0), -1);
        due("no such what", x.one(0, 5), -1);
        due("no such what", x.one(0, -1), -1);
    }

    private static void thing() {
        ToldWhereItWas x = townOf("t312348;p000;o30;");
        due("TRUE", x.thing(3, 0), 1234);
        due("WORTH", x.thing(3, 1), 8);
        due("OWNER", x.thing(3, 2), 0);
        due("OWNER nobody", x.thing(2, 2), -4);
        due("no such THING", x.thing(5, 0), -1);
        due("no such THING", x.thing(-1, 2), -1);
        due("no such what", x.thing(0, 3), -1);
        due("no such what", x.thing(0, -1), -1);
    }

    private static void story() {
        ToldWhereItWas x = townOf("p009;l0403;l0411;t420480;");
        due("KNOWS", x.story(0, 4, 0), 8 + 2048);
        due("STORY by the TRUE one", x.story(0, 4, 1), 1);
        due("KNOWS nothing", x.story(0, 3, 0), 0);
        due("no such one", x.story(1, 0, 0), -1);
        due("no such THING", x.story(0, 5, 0), -1);
        due("no such what", x.story(0, 0, 2), -1);
        due("no such what", x.story(0, 0, -1), -1);
    }

    /** Each knows FACTS 0, 1, 7 that are TRUE and 2, 3, 8 that are FALSE. */
    private static void storyOfEachKind() {
        int[] stories = {3, 3 + 2, 3 + 1, 3 + 1, 3 + 2 + 2, 3 + 1, 3, 0};
        int[] storiesOfFalseOnes = {0, 0, 1, 0, 0, 1, 0, 0};
        for (int kind = 0; kind < 8; kind++) {
            ToldWhereItWas x = townOf("p" + kind + "89;t001311;l0000;l0001;l0007;l0002;l0003;l0008;");
            due("STORY of KIND " + kind, x.story(0, 0, 1), stories[kind]);
            x.learns(0, 0, 0);
            x.learns(0, 0, 1);
            x.learns(0, 0, 7);
            due("STORY of FALSE ones, KIND " + kind, x.story(0, 0, 1), storiesOfFalseOnes[kind]);
        }
        due("an OLD one of FIGURE 2", townOf("p129;l0000;").story(0, 0, 1), 1);
        due("an OLD one of FIGURE 9", townOf("p199;l0000;").story(0, 0, 1), 4);
        due("a BURGLAR who KNOWS one", townOf("p699;l0000;").story(0, 0, 1), 0);
        due("a BURGLAR who KNOWS a late one", townOf("p699;l0006;").story(0, 0, 1), 1);
        due("a SERVANT who KNOWS FACT 5", townOf("p399;l0005;").story(0, 0, 1), 1);
        due("a SERVANT who KNOWS FACT 11", townOf("p399;l0011;").story(0, 0, 1), 2);
    }

    private static void comes() {
        ToldWhereItWas x = new ToldWhereItWas();
        x.keep(0, 1, DOWAGER, 8);
        due("the first", x.comes(0, 4), 0);
        due("the second", x.comes(0, 9), 1);
        due("KIND", x.one(0, 0), DOWAGER);
        due("FIGURE", x.one(0, 1), 8);
        due("CARES", x.one(0, 2), 4);
        due("CARES for nothing", x.one(1, 2), 9);
        x.row(1, 0, 2);
        due("a ROW", x.comes(1, 0), -12);
        due("nothing there", x.comes(2, 0), -11);
        due("no such shelf", x.comes(8, 0), -1);
        due("no such shelf", x.comes(-1, 0), -1);
        due("CARES 5 goes before nothing there", x.comes(2, 5), -1);
        due("CARES 8", x.comes(0, 8), -1);
        due("CARES -1", x.comes(0, -1), -1);
        for (int p = 2; p < 7; p++) {
            due("one more", x.comes(0, 0), p);
        }
        due("no room", x.comes(0, 0), -2);
        due("nothing there goes before no room", x.comes(2, 0), -11);
        due("a ROW goes before no room", x.comes(1, 0), -12);
        due("who came stays on the shelf", x.cost(0), 7);
        ToldWhereItWas y = new ToldWhereItWas();
        y.keep(0, 1, MAN, 1);
        y.image();
        y.comes(0, 0);
        y.days(3);
        y.restore();
        y.comes(0, 0);
        due("a new one KNOWS nothing", y.story(0, 0, 0), 0);
    }

    private static void learns() {
        ToldWhereItWas x = townOf("p009;");
        due("he KNOWS it", x.learns(0, 1, 11), 1);
        due("KNOWS", x.story(0, 1, 0), 2048);
        due("of another THING nothing", x.story(0, 0, 0), 0);
        due("not any more", x.learns(0, 1, 11), 0);
        due("KNOWS nothing", x.story(0, 1, 0), 0);
        due("FACT 0", x.learns(0, 4, 0), 1);
        due("no such one", x.learns(1, 0, 0), -1);
        due("no such one", x.learns(-1, 0, 0), -1);
        due("no such THING", x.learns(0, 5, 0), -1);
        due("no such THING", x.learns(0, -1, 0), -1);
        due("no such FACT", x.learns(0, 0, 12), -1);
        due("no such FACT", x.learns(0, 0, -1), -1);
        due("nothing more is known", x.count(4), 1);
    }

    private static void cares() {
        ToldWhereItWas x = townOf("p002;");
        due("the old", x.cares(0, 4), 2);
        due("the old", x.cares(0, 9), 4);
        due("the old, nothing", x.cares(0, 0), 9);
        due("CARES", x.one(0, 2), 0);
        due("no such one", x.cares(1, 0), -1);
        due("no such one", x.cares(-1, 0), -1);
        due("no such THING", x.cares(0, 5), -1);
        due("no such THING", x.cares(0, 8), -1);
        due("no such THING", x.cares(0, -1), -1);
        due("CARES as before", x.one(0, 2), 0);
    }

    private static void gives() {
        ToldWhereItWas x = townOf("p009;p009;");
        due("nobody before", x.gives(3, 1), -4);
        due("the old", x.gives(3, 0), 1);
        due("to nobody", x.gives(3, 9), 0);
        due("OWNER", x.thing(3, 2), -4);
        due("no such one", x.gives(3, 2), -1);
        due("no such one", x.gives(3, 8), -1);
        due("no such one", x.gives(3, -1), -1);
        due("no such THING", x.gives(5, 0), -1);
        due("no such THING", x.gives(-1, 0), -1);
    }

    private static void past() {
        ToldWhereItWas x = new ToldWhereItWas();
        due("the old", x.past(4, 0), 4095);
        due("the old", x.past(4, 4095), 0);
        due("the old", x.past(4, 77), 4095);
        due("TRUE", x.thing(4, 0), 77);
        due("too many", x.past(4, 4096), -1);
        due("below 0", x.past(4, -1), -1);
        due("no such THING", x.past(5, 0), -1);
        due("no such THING", x.past(-1, 0), -1);
        due("TRUE as before", x.thing(4, 0), 77);
    }

    private static void days() {
        ToldWhereItWas x = townOf("p000;p003;");
        due("OWNED THINGS", x.days(1), 2);
        due("DAY", x.count(1), 1);
        due("too few", x.days(0), -1);
        due("too many", x.days(61), -1);
        due("below 0", x.days(-5), -1);
        for (int i = 0; i < 16; i++) {
            x.days(60);
        }
        due("DAY", x.count(1), 961);
        due("DAY above 999", x.days(39), -3);
        due("none of them goes", x.count(1), 961);
        due("a number out of range goes first", x.days(61), -1);
        due("just to DAY 999", x.days(38), 2);
        due("DAY", x.count(1), 999);
        due("DAY above 999", x.days(1), -3);
    }

    private static void learningOfEachKind() {
        int[] knownBehind3Days = {2 + 8 + 32, 2, 63, 2 + 8 + 32 + 128, 2, 4095, 2 + 8 + 32 + 128 + 512 + 2048, 0};
        for (int kind = 0; kind < 8; kind++) {
            ToldWhereItWas x = townOf("p" + kind + "91;t127301;");
            x.days(3);
            int known = x.story(0, 1, 0);
            due("KNOWS behind 3 DAYS, KIND " + kind, known, knownBehind3Days[kind]);
            due("KNOWS of another THING", x.count(4), Integer.bitCount(known));
        }
        ToldWhereItWas x = townOf("p500;p510;p520;");
        x.days(1);
        due("a PEDLAR of FIGURE 0", x.story(0, 0, 0), 0);
        due("a PEDLAR of FIGURE 1", x.story(1, 0, 0), 0);
        due("a PEDLAR of FIGURE 2", x.story(2, 0, 0), 1);
        ToldWhereItWas y = townOf("p003;t300031;");
        y.days(5);
        due("no more TRUE ones are left", y.story(0, 3, 0), 3);
    }

    private static void forgetting() {
        int[] known = {1 + 2048, 1, 1 + 2048, 1 + 2048, 1, 1 + 2048, 1 + 2048, 1};
        for (int kind = 0; kind < 8; kind++) {
            ToldWhereItWas x = townOf("p" + kind + "99;l0000;l0011;l0200;l0211;");
            x.days(6);
            due("KNOWS on DAY 6", x.story(0, 0, 0), 1 + 2048);
            x.days(1);
            due("KNOWS on DAY 7, KIND " + kind, x.story(0, 0, 0), known[kind]);
            due("of each THING", x.story(0, 2, 0), known[kind]);
            x.days(7);
            due("KNOWS on DAY 14, KIND " + kind, x.story(0, 2, 0), known[kind] == 1 ? 0 : known[kind]);
        }
        ToldWhereItWas y = townOf("p100;l0011;");
        y.days(14);
        due("on DAY 14 he LEARNS ahead of FORGETTING", y.story(0, 0, 0), 63);
        for (int greatest = 1; greatest < 12; greatest++) {
            for (int other = 0; other < greatest; other++) {
                ToldWhereItWas z = townOf("d06;p109;");
                z.learns(0, 3, greatest);
                z.learns(0, 3, other);
                z.days(1);
                due("of " + other + " and " + greatest + " he KNOWS", z.story(0, 3, 0), 1 << other);
            }
        }
    }

    private static void ownersByDays() {
        ToldWhereItWas x = townOf("p009;p009;p009;l0100;l1101;l2102;l2202;o20;l0203;");
        x.days(1);
        due("of several the least", x.thing(1, 2), 0);
        due("no longer STORY than its OWNER's", x.thing(2, 2), 0);
        due("nobody's without a STORY", x.thing(0, 2), -4);
        x.learns(1, 2, 0);
        x.learns(1, 2, 1);
        x.learns(2, 2, 3);
        x.days(1);
        due("the least of those that are longer", x.thing(2, 2), 1);
        x.past(2, 0);
        x.days(1);
        due("OWNER without a STORY", x.thing(2, 2), 1);
        ToldWhereItWas y = townOf("t000011;p009;l0000;o00;p209;l1001;l1002;l1003;l1004;d01;");
        due("a LIAR by FALSE ones", y.thing(0, 2), 1);
    }

    /** A town of seven MEN who CARE for nothing; the last KNOWS the most of THING 4, and of THING 0 the first alone. */
    private static ToldWhereItWas sevenMen() {
        ToldWhereItWas x = townOf("p009;p009;p009;p009;p009;p009;p009;");
        for (int p = 0; p < 7; p++) {
            for (int fact = 0; fact <= p; fact++) {
                x.learns(p, 4, fact);
            }
        }
        x.learns(0, 0, 0);
        return x;
    }

    /** An OLD one who loses a FACT of THING 0 on every DAY that 7 divides, and all 9 by DAY 63, to a MAN who KNOWS one. */
    private static ToldWhereItWas slowLoser(int day) {
        ToldWhereItWas x = townOf("d0" + day + ";p109;p009;o00;l1000;");
        for (int fact = 0; fact < 9; fact++) {
            x.learns(0, 0, fact);
        }
        return x;
    }

    // ---- promises 12 to 22

    /** A MAN who has FACT 0, and a BURGLAR who comes to have more behind two DAYS. */
    private static ToldWhereItWas manAndBurglar() {
        return townOf("p000;d01;p650;");
    }

    private static void ownerThen() {
        ToldWhereItWas x = manAndBurglar();
        due("now", x.ownerThen(0, 0), 0);
        due("the MAN of 2 and the BURGLAR of 2", x.ownerThen(0, 1), 0);
        due("the MAN of 3 and the BURGLAR of 5", x.ownerThen(0, 2), 1);
        due("nobody", x.ownerThen(1, 60), -4);
        due("in mind alone", x.thing(0, 2), 0);
        due("DAY as it is", x.count(1), 1);
        due("too far", x.ownerThen(0, 61), -1);
        due("below 0", x.ownerThen(0, -1), -1);
        due("no such THING", x.ownerThen(5, 0), -1);
        due("no such THING", x.ownerThen(-1, 0), -1);
        for (int i = 0; i < 17; i++) {
            x.days(58);
        }
        x.days(12);
        due("DAY", x.count(1), 999);
        due("DAY may pass 999 in mind", x.ownerThen(0, 60), 1);
    }

    private static void storyThen() {
        ToldWhereItWas x = manAndBurglar();
        due("now", x.storyThen(1, 0, 0), 0);
        due("BURGLAR of 6", x.storyThen(1, 0, 2), 5);
        due("BURGLAR of 9, 3 of them late", x.storyThen(1, 0, 3), 11);
        due("BURGLAR of all", x.storyThen(1, 0, 60), 17);
        due("MAN of all", x.storyThen(0, 0, 60), 12);
        due("no such one", x.storyThen(2, 0, 0), -1);
        due("no such THING", x.storyThen(0, 5, 0), -1);
        due("too far", x.storyThen(0, 0, 61), -1);
        due("below 0", x.storyThen(0, 0, -1), -1);
    }

    private static void ownsThen() {
        ToldWhereItWas x = townOf("p000;p002;t040957;t240954;o31;t340959;");
        due("OWNS now", x.ownsThen(1, 0, 0), 8);
        due("WORTH now", x.ownsThen(1, 0, 1), 9);
        due("OWNS behind a DAY", x.ownsThen(1, 1, 0), 8 + 4);
        due("WORTH behind a DAY", x.ownsThen(1, 1, 1), 13);
        due("WORTH of another", x.ownsThen(0, 60, 1), 7);
        due("no such one", x.ownsThen(2, 0, 0), -1);
        due("too far", x.ownsThen(0, 61, 0), -1);
        due("below 0", x.ownsThen(0, -1, 0), -1);
        due("no such what", x.ownsThen(0, 0, 2), -1);
        due("no such what", x.ownsThen(0, 0, -1), -1);
    }

    private static void when() {
        ToldWhereItWas x = manAndBurglar();
        due("now", x.when(0, 0), 0);
        due("behind 2 DAYS", x.when(1, 0), 2);
        due("never", x.when(1, 1), -4);
        due("no such one", x.when(2, 0), -1);
        due("no such THING", x.when(0, 5), -1);
        due("no such THING", x.when(0, -1), -1);
        ToldWhereItWas y = townOf("p009;l0000;o00;p001;");
        due("not by caring for another", y.when(1, 0), -4);
        due("behind 60 DAYS", slowLoser(3).when(1, 0), 60);
        due("behind 61 DAYS: never", slowLoser(2).when(1, 0), -4);
    }

    private static void loses() {
        ToldWhereItWas x = manAndBurglar();
        due("to the BURGLAR", x.loses(0), 2);
        due("nobody's", x.loses(1), -4);
        x.gives(1, 0);
        due("never", x.loses(1), -4);
        due("behind 60 DAYS", slowLoser(3).loses(0), 60);
        due("behind 61 DAYS: never", slowLoser(2).loses(0), -4);
        due("no such THING", x.loses(5), -1);
        due("no such THING", x.loses(-1), -1);
    }

    private static void lookAfter() {
        ToldWhereItWas x = townOf("p000;t040952;t140955;t240955;");
        due("the first of the dearest", x.lookAfter(0, 1, 0), 1);
        due("how much", x.lookAfter(0, 1, 1), 5);
        due("in no time all is one", x.lookAfter(0, 0, 0), 0);
        due("how much", x.lookAfter(0, 0, 1), 0);
        due("he CARES as before", x.one(0, 2), 0);
        // He loses THING 1 to the other, if he does not CARE for it.
        ToldWhereItWas y = townOf("p000;p001;o10;t140959;l0100;");
        due("what he has", y.lookAfter(0, 3, 0), 1);
        due("how much", y.lookAfter(0, 3, 1), 9);
        due("SILENT ones may CARE for what they like", townOf("p709;").lookAfter(0, 60, 0), 0);
        due("no such one", x.lookAfter(1, 1, 0), -1);
        due("too far", x.lookAfter(0, 61, 0), -1);
        due("below 0", x.lookAfter(0, -1, 0), -1);
        due("no such what", x.lookAfter(0, 1, 2), -1);
        due("no such what", x.lookAfter(0, 1, -1), -1);
    }

    private static void win() {
        ToldWhereItWas x = townOf("p009;");
        due("nobody else: above 0", x.win(0, 0), 1);
        x.learns(0, 0, 5);
        due("enough", x.win(0, 0), 0);
        x.past(1, 0);
        due("nothing TRUE", x.win(0, 1), -4);
        ToldWhereItWas y = townOf("p009;p399;p009;l0000;l0001;l2000;l2001;l2002;o02;");
        due("longer than all others'", y.win(0, 0), 2);
        due("a SERVANT by least ones", y.win(1, 0), 4);
        due("the OWNER", y.win(2, 0), 0);
        y.past(0, 4032 + 7);
        due("a SERVANT: FACTS 0, 1, 2, 6", y.win(1, 0), 4);
        y.past(0, 4032);
        due("a SERVANT: FACT 6", y.win(1, 0), 1);
        due("others' STORIES are 0: above 0", y.win(0, 0), 1);
        y.past(0, 7);
        due("not to be had: as long, not longer", y.win(0, 0), -4);
        due("a SILENT one", townOf("p709;").win(0, 0), -4);
        ToldWhereItWas z = townOf("p009;l0000;l0001;l0002;l0003;l0004;l0005;l0006;l0007;l0008;l0009;l0010;");
        tell(z, "l0011;p149;");
        due("an OLD one needs all", z.win(1, 0), 12);
        due("the first of seven", sevenMen().win(0, 4), 7);
        due("the last of seven", sevenMen().win(6, 4), 0);
        ToldWhereItWas v = townOf("p009;p009;l0000;t000011;");
        due("FACT 0 is all that is TRUE", v.win(1, 0), -4);
        v.past(0, 3);
        due("FACTS 0 and 1", v.win(1, 0), 2);
        due("no such one", x.win(1, 0), -1);
        due("no such THING", x.win(0, 5), -1);
        due("no such THING", x.win(0, -1), -1);
    }

    private static void ask() {
        ToldWhereItWas x = townOf("p009;p009;p009;p709;l1000;l1001;l2002;l2003;l3004;l3005;l3006;");
        due("a SILENT one KNOWS most", x.ask(0, 0), 3);
        due("he KNOWS as before", x.story(0, 0, 0), 0);
        due("of a SILENT one the STORY is never longer", x.ask(3, 0), -4);
        x.past(0, 15);
        due("of several the least", x.ask(0, 0), 1);
        due("the least other", x.ask(1, 0), 2);
        due("nobody KNOWS of it", x.ask(0, 1), -4);
        x.past(0, 3);
        due("no longer by FALSE ones", x.ask(1, 0), -4);
        due("no such one", x.ask(4, 0), -1);
        due("no such THING", x.ask(0, 5), -1);
        due("no such THING", x.ask(0, -1), -1);
        ToldWhereItWas y = townOf("p209;p009;l1000;l1001;t000001;");
        due("a LIAR gains by FALSE ones", y.ask(0, 0), 1);
        due("the last of seven", sevenMen().ask(0, 4), 6);
        due("the first of seven", sevenMen().ask(6, 0), 0);
    }

    private static void care() {
        ToldWhereItWas x = townOf("p009;p009;l0000;l0001;l0002;l0100;l0101;l1000;l1001;");
        due("0 for THING 1, 1 for THING 0", x.care(-1), 4);
        due("THING 0", x.care(0), 1);
        due("THING 1", x.care(1), 0);
        due("THING 2", x.care(2), -4);
        x.learns(0, 0, 3);
        due("0 for THING 0 alone is as much", x.care(-1), 4);
        due("the least one", x.care(0), 0);
        due("the least one left, for nothing", x.care(1), 1);
        due("nobody left", x.care(4), -4);
        due("they CARE as before", x.one(0, 2), 9);
        ToldWhereItWas y = townOf("p009;l0400;");
        due("nobody for THING 0, so that he is left", y.care(0), -4);
        due("THING 4", y.care(4), 0);
        due("how much", y.care(-1), 1);
        due("seven of them: the last and the first", sevenMen().care(-1), 8);
        due("the first", sevenMen().care(0), 0);
        due("the least of those left", sevenMen().care(3), 3);
        due("the last", sevenMen().care(4), 6);
        due("nobody there", new ToldWhereItWas().care(0), -4);
        due("nobody there", new ToldWhereItWas().care(-1), 0);
        due("below -1", x.care(-2), -1);
        due("no such THING", x.care(5), -1);
    }

    private static void richest() {
        ToldWhereItWas x = townOf("p009;p009;p009;t040954;t140953;t240951;o01;o12;o22;");
        due("of several the least", x.richest(0), 1);
        due("UNOWNED", x.richest(1), 8 + 16);
        due("all STORIES are 0", x.richest(2), -4);
        x.gives(3, 2);
        due("the richest", x.richest(0), 2);
        x.learns(2, 1, 0);
        x.learns(1, 3, 0);
        x.learns(1, 4, 0);
        due("LONGEST, the first", x.richest(2), 13);
        x.learns(2, 1, 1);
        due("LONGEST", x.richest(2), 21);
        due("nobody", new ToldWhereItWas().richest(0), -4);
        due("nobody has anything", townOf("p009;").richest(0), 0);
        due("UNOWNED of nobody", new ToldWhereItWas().richest(1), 31);
        due("LONGEST of the first for THING 0", townOf("p009;l0000;").richest(2), 0);
        due("LONGEST of seven", sevenMen().richest(2), 64);
        ToldWhereItWas y = sevenMen();
        y.gives(0, 6);
        due("the last of seven", y.richest(0), 6);
        due("no such what", x.richest(4), -1);
        due("no such what", x.richest(-1), -1);
    }

    private static void still() {
        due("STILL at once", townOf("p009;").richest(3), 0);
        due("STILL behind a DAY", townOf("p000;").richest(3), 1);
        due("STILL behind 3 DAYS", manAndBurglar().richest(3), 2);
        // The DOWAGER has 6 to the MAN's 7 on DAY 1, and 8 on DAY 4.
        ToldWhereItWas x = townOf("p490;l0000;o00;p009;l1000;l1001;l1002;l1003;l1004;l1005;l1006;");
        due("lost on DAY 1, won again on DAY 4", x.richest(3), 4);
        ToldWhereItWas y = townOf("t000011;p199;l0000;o00;p009;l1000;");
        due("lost on DAY 7", y.richest(3), 7);
        ToldWhereItWas z = townOf("t000031;p199;l0000;l0001;o00;p009;l1000;");
        due("lost on DAY 14, none within 10", z.richest(3), 0);
        // A DOWAGER who has 6, and 0 on DAYS 7, 14, 15, 21, ..: then the MAN has THING 0.
        due("never STILL", townOf("t000011;p490;p009;l1000;").richest(3), -4);
        // THING 1 is lost on DAY 14, THING 0 on DAY 3 or 4.
        String old = "p109;l0100;l0101;o10;p009;l1100;l1000;l1001;o01;p000;";
        due("10 DAYS from DAY 3 on", townOf(old).richest(3), 3);
        due("9 DAYS from DAY 4 on", townOf(old + "l1002;").richest(3), 14);
        due("the last change behind 50 DAYS", eightChanges(6).richest(3), 50);
        due("the last change behind 51 DAYS", eightChanges(5).richest(3), -4);
    }

    /** THINGS 0 .. 3 go from the DOWAGER to the OLD one to the MAN on DAYS 7 and 14, 21 and 28, 35 and 42, 49 and 56. */
    private static ToldWhereItWas eightChanges(int day) {
        ToldWhereItWas x = townOf("d0" + day + ";p499;p199;p009;l2000;l2100;l2200;l2300;o00;o10;o20;o30;");
        for (int t = 0; t < 4; t++) {
            for (int fact = 0; fact < 2 * t + 2; fact++) {
                x.learns(1, t, fact);
                if (fact < 2 * t + 1) {
                    x.learns(0, t, fact);
                }
            }
        }
        return x;
    }

    private static void common() {
        ToldWhereItWas x = townOf("p009;p009;p009;t001271;l0000;l0001;l0002;l1000;l1001;l2000;l2003;l2008;");
        due("COMMON", x.common(0, 0), 1);
        due("SECRET", x.common(0, 1), 4 + 8 + 256);
        due("LOST", x.common(0, 2), 16 + 32 + 64);
        due("RIVALS: 3, 2, 2", x.common(0, 3), 1);
        x.learns(0, 0, 2);
        due("RIVALS: 2, 2, 2", x.common(0, 3), 3);
        due("RIVALS of no STORY", x.common(1, 3), 0);
        due("LOST of another", x.common(1, 2), 4095);
        due("COMMON of nobody", new ToldWhereItWas().common(0, 0), 0);
        due("COMMON of one", townOf("p709;l0411;").common(4, 0), 2048);
        due("SECRET of one", townOf("p709;l0411;").common(4, 1), 2048);
        due("SECRET of the first of seven", sevenMen().common(0, 1), 1);
        due("SECRET of the last of seven", sevenMen().common(4, 1), 64);
        due("COMMON of seven", sevenMen().common(4, 0), 1);
        due("LOST of seven", sevenMen().common(4, 2), 4095 - 127);
        ToldWhereItWas y = sevenMen();
        due("RIVALS: 1 .. 7", y.common(4, 3), 0);
        y.past(4, 1);
        due("RIVALS: 1 seven times", y.common(4, 3), 21);
        due("no such THING", x.common(5, 0), -1);
        due("no such THING", x.common(-1, 0), -1);
        due("no such what", x.common(0, 4), -1);
        due("no such what", x.common(0, -1), -1);
    }

    // ---- promises 23 to 33

    private static void whatIs() {
        // A MAN: 0, 1, 2 behind 2 DAYS; 3 behind 3.
        ToldWhereItWas x = townOf("p050;");
        rowOf(x, 0, 0, 0, 1, 2, 3);
        due("a MAN alone", x.whatIs(0, 0, 0), 1 << MAN);
        due("any FIGURE", x.whatIs(0, 0, 1), 1023);
        rowOf(x, 0, 0, 0, 2);
        due("a LIAR, a SERVANT, a PEDLAR of FIGURE 5, a BURGLAR", x.whatIs(0, 0, 0),
            1 << LIAR | 1 << SERVANT | 1 << PEDLAR | 1 << BURGLAR);
        due("a MAN never so", x.whatIs(0, 0, 1), 0);
        rowOf(x, 0, 1, -32768, -32768, 2);
        due("skipped of shorts: a MAN, an OLD one of 5", x.whatIs(0, 0, 0), 1 << MAN | 1 << OLD);
        rowOf(x, 0, 2, LEAST_INT, LEAST_INT, 0);
        due("skipped of ints: a SILENT one", x.whatIs(0, 0, 0), 1 << SILENT);
        rowOf(x, 0, 1, -128);
        due("-128 is not skipped of shorts", x.whatIs(0, 0, 0), 0);
        rowOf(x, 0, 0);
        due("nothing told", x.whatIs(0, 0, 0), 255);
        due("nothing told", x.whatIs(0, 0, 1), 1023);
        ToldWhereItWas y = townOf("p180;");
        rowOf(y, 0, 0, -128, 0, 3);
        due("an OLD one of FIGURE 6, 7 or 8", y.whatIs(0, 0, 1), 64 + 128 + 256);
        due("an OLD one, and a SERVANT who was the OWNER", y.whatIs(0, 0, 0), 1 << OLD);
        y.cares(0, 9);
        due("he CARES for nothing", y.whatIs(0, 0, 0), 0);
        rowOf(y, 0, 0, 0, 0, 0);
        due("he CARES for nothing: STORY 0", y.whatIs(0, 0, 0), 255);
        due("KIND as before", y.one(0, 0), OLD);
        due("FIGURE as before", y.one(0, 1), 8);
        // A SERVANT gains the THING on DAY 1, and LEARNS 1 a DAY from then on.
        rowOf(x, 1, 0, 0, 2, 3, 4);
        due("a SERVANT who gains the THING", x.whatIs(1, 0, 0), 1 << SERVANT);
        int[] long100 = new int[100];
        java.util.Arrays.fill(long100, -128);
        long100[99] = 13;
        rowOf(x, 2, 0, long100);
        due("behind 99 DAYS nobody has 13", x.whatIs(2, 0, 0), 0);
        x.put(2, 99, 12);
        // On DAY 98 an OLD one of FIGURE 5 FORGETS to 11 FACTS: 12 together.
        due("behind 99 DAYS these have 12", x.whatIs(2, 0, 0), 1 << MAN | 1 << OLD | 1 << LIAR | 1 << PEDLAR);
        x.keep(3, 1, MAN, 0);
        due("no ROW", x.whatIs(3, 0, 0), -12);
        due("nothing there", x.whatIs(4, 0, 0), -11);
        due("no such shelf", x.whatIs(8, 0, 0), -1);
        due("no such one goes first", x.whatIs(4, 1, 0), -1);
        due("no such what goes first", x.whatIs(4, 0, 2), -1);
        due("no such what", x.whatIs(0, 0, -1), -1);
    }

    private static void whichPast() {
        ToldWhereItWas x = townOf("p009;p009;l0000;l0001;l1001;l1002;");
        rowOf(x, 0, 0, 1, 1);
        // Either FACT 1 alone of 0, 1, 2, or 0 and 2 without 1.
        due("how many", x.whichPast(0, 0, 0), 1024);
        due("the least", x.whichPast(0, 0, 1), 2);
        due("the greatest", x.whichPast(0, 0, 2), 4093);
        rowOf(x, 0, 2, LEAST_INT, 2);
        due("skipped", x.whichPast(0, 0, 0), 1024);
        due("the least", x.whichPast(0, 0, 1), 6);
        rowOf(x, 0, 0, 3);
        due("none", x.whichPast(0, 0, 0), 0);
        due("none is least", x.whichPast(0, 0, 1), -4);
        due("none is greatest", x.whichPast(0, 0, 2), -4);
        rowOf(x, 0, 0);
        due("all", x.whichPast(0, 0, 0), 4096);
        due("the least of all", x.whichPast(0, 0, 1), 0);
        due("the greatest of all", x.whichPast(0, 0, 2), 4095);
        rowOf(x, 0, 0, 0, 0, 0);
        due("more than there are", x.whichPast(0, 0, 0), 0);
        due("more than there are", x.whichPast(0, 0, 1), -4);
        due("TRUE as before", x.thing(0, 0), 4095);
        x.keep(3, 1, MAN, 0);
        due("no ROW", x.whichPast(3, 0, 0), -12);
        due("nothing there", x.whichPast(4, 0, 0), -11);
        due("no such shelf", x.whichPast(8, 0, 0), -1);
        due("no such THING goes first", x.whichPast(4, 5, 0), -1);
        due("no such what goes first", x.whichPast(4, 0, 3), -1);
        due("no such what", x.whichPast(0, 0, -1), -1);
    }

    private static void two() {
        // THING 1 has WORTH 5: who CARES for it alone has 4 more, 0 of both has it.
        ToldWhereItWas x = townOf("p009;p009;t140955;");
        due("0 alone", x.two(0, 1, 1, 1), 10);
        due("0 alone, told the other way", x.two(1, 0, 1, 1), 1);
        ToldWhereItWas y = townOf("p009;p009;t140951;");
        due("not worth it", y.two(0, 1, 1, 1), 0);
        due("not worth it, either", y.two(0, 1, 1, 30), 0);
        ToldWhereItWas z = townOf("p009;p209;t140959;");
        due("the LIAR has it anyway", z.two(0, 1, 1, 1), 1);
        due("told the other way", z.two(1, 0, 1, 1), 10);
        // 1 has THING 1, and keeps it by caring; 0 wins it by caring alone: one of them always wants to do otherwise.
        ToldWhereItWas v = townOf("p009;p009;l1100;o11;t140955;");
        due("none", v.two(0, 1, 1, 2), -4);
        due("none, told the other way", v.two(1, 0, 1, 2), -4);
        due("too few DAYS for 0", v.two(0, 1, 1, 1), 0);
        due("they CARE as before", z.one(1, 2), 9);
        due("one twice", x.two(0, 0, 0, 1), -1);
        due("no such one", x.two(0, 2, 0, 1), -1);
        due("no such one", x.two(2, 0, 0, 1), -1);
        due("no such one", x.two(-1, 0, 0, 1), -1);
        due("no such THING", x.two(0, 1, 5, 1), -1);
        due("no DAYS", x.two(0, 1, 0, 0), -1);
        due("too far", x.two(0, 1, 0, 31), -1);
    }

    private static void floods() {
        // Without a flood on DAY 1 the DOWAGER gains it for good; with one neither KNOWS anything any more.
        ToldWhereItWas x = townOf("p009;l0000;o00;p409;l1001;");
        due("above the line", x.floods(1, 0, 1, 3, 0), 2);
        due("below the line", x.floods(1, 0, 1, 3, 1), 3);
        due("the other: above", x.floods(0, 0, 1, 3, 0), 1);
        due("the other: below", x.floods(0, 0, 1, 3, 1), 3);
        due("in least terms, above", x.floods(1, 0, 6, 20, 0), 19);
        due("in least terms, below", x.floods(1, 0, 6, 20, 1), 20);
        // On DAY 7 the DOWAGER FORGETS, and loses it to the MAN, if there was no flood at all.
        due("19 by 20 to the 6th, less 19 to the 7th", x.floods(1, 0, 7, 20, 0), 322128261L);
        due("20 to the 7th", x.floods(1, 0, 7, 20, 1), 1280000000L);
        due("no DAYS: sure", x.floods(0, 0, 0, 2, 0), 1);
        due("no DAYS: sure", x.floods(0, 0, 0, 2, 1), 1);
        due("no DAYS: never", x.floods(1, 0, 0, 2, 0), 0);
        due("no DAYS: never", x.floods(1, 0, 0, 2, 1), 1);
        due("nothing is forgotten", x.story(1, 0, 0), 2);
        // One more FACT: two floods ahead of DAY 1 are not to be had, so the DOWAGER gains it always.
        x.learns(1, 0, 5);
        due("always", x.floods(1, 0, 3, 2, 0), 1);
        due("always", x.floods(1, 0, 3, 2, 1), 1);
        ToldWhereItWas y = sevenMen();
        y.learns(6, 2, 0);
        due("the last of seven, above", y.floods(6, 2, 1, 4, 0), 3);
        due("the last of seven, below", y.floods(6, 2, 1, 4, 1), 4);
        y.learns(0, 2, 5);
        y.learns(0, 2, 7);
        y.learns(6, 2, 3);
        y.learns(6, 2, 9);
        // By a flood FACT 0 is forgotten by the last, and FACT 5 by the first: 2 to 1.
        due("the least FACT of each", y.floods(6, 2, 1, 4, 0), 1);
        due("the least FACT of each", y.floods(6, 2, 1, 4, 1), 1);
        long refused = 1000000001L;
        due("no such one", x.floods(2, 0, 1, 2, 0), refused);
        due("no such THING", x.floods(0, 5, 1, 2, 0), refused);
        due("too many DAYS", x.floods(0, 0, 8, 2, 0), refused);
        due("DAYS below 0", x.floods(0, 0, -1, 2, 0), refused);
        due("odds 1 in 1", x.floods(0, 0, 1, 1, 0), refused);
        due("odds 1 in 21", x.floods(0, 0, 1, 21, 0), refused);
        due("no such part", x.floods(0, 0, 1, 2, 2), refused);
        due("no such part", x.floods(0, 0, 1, 2, -1), refused);
    }

    private static void share() {
        ToldWhereItWas x = townOf("p009;p009;t000016;t100012;t200014;t300010;t400010;o00;o30;o11;");
        due("6 of 12, above", x.share(0, 0), 1);
        due("6 of 12, below", x.share(0, 1), 2);
        due("2 of 12, above", x.share(1, 0), 1);
        due("2 of 12, below", x.share(1, 1), 6);
        x.gives(1, 9);
        due("nothing, above", x.share(1, 0), 0);
        due("nothing, below", x.share(1, 1), 1);
        tell(x, "t000010;t100010;t200010;");
        due("all is 0, above", x.share(0, 0), 0);
        due("all is 0, below", x.share(0, 1), 1);
        long refused = 1000000001L;
        due("no such one", x.share(2, 0), refused);
        due("no such one", x.share(-1, 0), refused);
        due("no such part", x.share(0, 2), refused);
        due("no such part", x.share(0, -1), refused);
    }

    private static void forged() {
        ToldWhereItWas x = townOf("p009;p009;o01;o20;");
        rowOf(x, 0, 0, 1, 9, 0, 9, 9);
        due("all is so", x.forged(0), -4);
        rowOf(x, 0, 2, 1, 9, 0, 9, 9, 9);
        due("no such THING", x.forged(0), 5);
        rowOf(x, 0, 1, 1, 0, 1);
        due("the first that is not so", x.forged(0), 1);
        rowOf(x, 0, 0, -128);
        due("nothing is skipped", x.forged(0), 0);
        rowOf(x, 0, 0);
        due("nothing is told", x.forged(0), -4);
        x.keep(0, 1, MAN, 0);
        due("no ROW", x.forged(0), -12);
        due("nothing there", x.forged(1), -11);
        due("no such shelf", x.forged(8), -1);
        due("no such shelf", x.forged(-1), -1);
    }

    private static void judge() {
        ToldWhereItWas x = manAndBurglar();
        rowOf(x, 0, 0, 1, 1, 0, 0);
        due("the MAN loses it", x.judge(0, 0), -4);
        rowOf(x, 0, 0, 0, 0, 1, 1);
        due("the BURGLAR gains it", x.judge(0, 1), -4);
        due("not so of the MAN", x.judge(0, 0), 0);
        rowOf(x, 0, 1, -32768, 0, -32768, 2);
        due("skipped", x.judge(0, 1), 3);
        rowOf(x, 0, 2, new int[100]);
        due("too long", x.judge(0, 1), 2);
        rowOf(x, 0, 2);
        due("nothing told", x.judge(0, 1), -4);
        due("DAY as before", x.count(1), 1);
        x.keep(0, 1, MAN, 0);
        due("no ROW", x.judge(0, 0), -12);
        due("nothing there", x.judge(1, 0), -11);
        due("no such one goes first", x.judge(1, 2), -1);
        due("no such shelf", x.judge(8, 0), -1);
    }

    /** With seed 1 a MAN's draws are 16838 5758 10113 17515 31051, CARES 5627 modulo 5, and so on. */
    private static void years() {
        ToldWhereItWas x = townOf("p009;o20;");
        due("OWNED in a year", x.years(1, 1, 0), 1);
        due("the same OWNER", x.years(1, 1, 1), 0);
        due("CARES 2 again", x.years(2, 1, 1), 0);
        due("OWNED in 3 years", x.years(3, 1, 0), 4);
        due("CARES 3 in the third", x.years(3, 1, 1), 1);
        x.gives(2, 9);
        due("OWNED from nobody", x.years(2, 1, 0), 2);
        due("another OWNER than nobody", x.years(2, 1, 1), 2);
        due("nobody there", new ToldWhereItWas().years(20, -7, 0), 0);
        ToldWhereItWas y = townOf("p709;o00;");
        due("OWNED by a SILENT one", y.years(20, -7, 0), 20);
        due("of no other", y.years(20, -7, 1), 0);
        due("CARES as before", x.one(0, 2), 9);
        due("TRUE as before", x.thing(2, 0), 4095);
        // 454 of THING 0: FACTS 1, 2, 6, 7, 8 are TRUE.
        due("FACT 2 is TRUE", townOf("p009;l0002;").years(1, 1, 0), 2);
        due("FACT 2 makes another OWNER of THING 0", townOf("p009;l0002;").years(1, 1, 1), 2);
        due("FACT 3 is FALSE", townOf("p009;l0003;").years(1, 1, 0), 1);
        // 1662 of THING 1: FACTS 1 and 2 are TRUE; on DAYS 7 and 14 the OLD one FORGETS them. 8 DAYS end on DAY 13.
        ToldWhereItWas z = townOf("p109;l0101;l0102;o10;p009;l1101;d05;");
        due("OWNED behind 8 DAYS", z.years(1, 1, 0), 3);
        due("others behind 8 DAYS", z.years(1, 1, 1), 2);
        due("no years", x.years(0, 1, 0), -1);
        due("too many years", x.years(21, 1, 0), -1);
        due("no such what", x.years(1, 1, 2), -1);
        due("no such what", x.years(1, 1, -1), -1);
    }

    private static void image() {
        ToldWhereItWas x = townOf("p000;d05;");
        due("DAY", x.image(), 5);
        x.days(3);
        due("DAY of the second", x.image(), 8);
        x.days(1);
        due("the second is restored", x.restore(), 8);
    }

    private static void restore() {
        ToldWhereItWas x = townOf("p000;p151;l0403;t240955;o40;d03;");
        x.image();
        x.keep(0, 1, PEDLAR, 3);
        tell(x, "t200008;p333;l0404;o41;c04;d02;");
        due("DAY", x.restore(), 3);
        due("DAY", x.count(1), 3);
        due("PEOPLE", x.count(0), 2);
        due("TRUE", x.thing(2, 0), 4095);
        due("WORTH", x.thing(2, 1), 5);
        due("OWNER", x.thing(4, 2), 0);
        due("KNOWS", x.story(0, 4, 0), 8);
        due("KNOWS by DAYS", x.story(0, 0, 0), 7);
        due("CARES", x.one(0, 2), 0);
        due("KIND", x.one(1, 0), OLD);
        due("FIGURE", x.one(1, 1), 5);
        due("SHELVES stay", x.cost(0), 10);
        x.days(9);
        due("restored once more", x.restore(), 3);
        due("KNOWS once more", x.story(0, 0, 0), 7);
        due("there is none", townOf("d01;").restore(), -3);
    }

    private static void count() {
        ToldWhereItWas x = townOf("p009;p009;t340959;o30;o11;l0000;l0011;l1305;d04;");
        due("PEOPLE", x.count(0), 2);
        due("DAY", x.count(1), 4);
        // On DAY 1 one has a STORY for THING 0, and the other for THING 3.
        due("OWNED THINGS", x.count(2), 1 + 2 + 8);
        due("all WORTH", x.count(3), 13);
        due("FACTS known", x.count(4), 3);
        due("FACTS known of seven", sevenMen().count(4), 29);
        due("no such what", x.count(5), -1);
        due("no such what", x.count(-1), -1);
    }

    // ---- promises 34 to 40

    private static void keep() {
        ToldWhereItWas x = new ToldWhereItWas();
        due("one", x.keep(7, 1, SILENT, 9), 0);
        due("there he is", x.comes(7, 9), 0);
        due("KIND", x.one(0, 0), SILENT);
        due("FIGURE", x.one(0, 1), 9);
        due("no such KIND", x.keep(7, 1, 8, 0), -1);
        due("no such KIND", x.keep(7, 1, -1, 0), -1);
        due("no such FIGURE", x.keep(7, 1, 0, 10), -1);
        due("no such FIGURE", x.keep(7, 1, 0, -1), -1);
        due("no such what", x.keep(7, 2, 0, 0), -1);
        due("no such what", x.keep(7, -1, 0, 0), -1);
        due("no such shelf", x.keep(8, 0, 0, 0), -1);
        due("no such shelf", x.keep(-1, 1, 0, 0), -1);
        due("still there", x.cost(7), 1);
        due("nothing; the others do not matter", x.keep(7, 0, -99, 99), 0);
        due("nothing there", x.cost(7), -11);
    }

    private static void row() {
        ToldWhereItWas x = new ToldWhereItWas();
        due("none at all", x.row(0, 0, 0), 0);
        due("no place", x.put(0, 0, 1), -13);
        due("100 of ints", x.row(0, 2, 100), 0);
        due("the last", x.put(0, 99, 5), 0);
        due("one too many", x.put(0, 100, 5), -13);
        due("a new one", x.row(0, 1, 100), 0);
        due("0 at first", x.element(0, 99), 0);
        due("too long", x.row(0, 0, 101), -1);
        due("below 0", x.row(0, 0, -1), -14);
        due("no such SORT", x.row(0, 3, 1), -1);
        due("no such SORT goes first", x.row(0, -1, -1), -1);
        due("no such shelf goes first", x.row(8, 0, -1), -1);
        due("no such shelf", x.row(-1, 0, 1), -1);
        due("the old one is there", x.put(0, 99, 1), 0);
    }

    private static void put() {
        ToldWhereItWas x = new ToldWhereItWas();
        int[] numbers = {127, 128, -129, 255, 256, 70000, -70000, LEAST_INT};
        long[] bytes = {127, -128, 127, -1, 0, 112, -112, 0};
        long[] shorts = {127, 128, -129, 255, 256, 4464, -4464, 0};
        for (int i = 0; i < numbers.length; i++) {
            x.row(0, 0, 1);
            due("put a byte", x.put(0, 0, numbers[i]), 0);
            due("a byte", x.element(0, 0), bytes[i]);
            x.row(0, 1, 1);
            due("put a short", x.put(0, 0, numbers[i]), 0);
            due("a short", x.element(0, 0), shorts[i]);
            x.row(0, 2, 1);
            due("put an int", x.put(0, 0, numbers[i]), 0);
            due("an int", x.element(0, 0), numbers[i]);
        }
        due("no such place", x.put(0, 1, 1), -13);
        due("no such place", x.put(0, -1, 1), -13);
        due("nothing there", x.put(1, -1, 1), -11);
        x.keep(1, 1, 0, 0);
        due("one is there", x.put(1, -1, 1), -12);
        due("no such shelf", x.put(8, -1, 1), -1);
        due("no such shelf", x.put(-1, 0, 1), -1);
    }

    private static void element() {
        ToldWhereItWas x = new ToldWhereItWas();
        rowOf(x, 3, 2, 5, -7);
        due("the first", x.element(3, 0), 5);
        due("the second", x.element(3, 1), -7);
        due("it stays", x.element(3, 1), -7);
        due("no such place", thrownByElement(x, 3, 2), 2);
        due("no such place", thrownByElement(x, 3, -1), 2);
        due("no ROW", thrownByElement(x, 4, 0), 2);
        x.keep(4, 1, 0, 0);
        due("one is there", thrownByElement(x, 4, 0), 2);
        due("no such shelf", thrownByElement(x, 8, 0), 1);
        due("no such shelf", thrownByElement(x, -1, -1), 1);
    }

    private static void copy() {
        ToldWhereItWas x = new ToldWhereItWas();
        rowOf(x, 0, 1, 1, 2, 3, 4, 5);
        rowOf(x, 1, 1, 0, 0, 0);
        due("two of them", x.copy(0, 3, 1, 1, 2), 2);
        due("as it was", x.element(1, 0), 0);
        due("the first", x.element(1, 1), 4);
        due("the second", x.element(1, 2), 5);
        due("onto itself, further on", x.copy(0, 0, 0, 1, 4), 4);
        due("as told ahead of it", x.element(0, 4), 4);
        due("as told ahead of it", x.element(0, 1), 1);
        rowOf(x, 0, 1, 1, 2, 3, 4, 5);
        due("onto itself, ahead", x.copy(0, 1, 0, 0, 4), 4);
        due("as told ahead of it", x.element(0, 0), 2);
        due("as told ahead of it", x.element(0, 3), 5);
        due("none at the end", x.copy(0, 5, 1, 3, 0), 0);
        due("none behind the end", x.copy(0, 6, 1, 3, 0), -13);
        due("too many from", x.copy(0, 4, 1, 0, 2), -13);
        due("too many to", x.copy(0, 0, 1, 2, 2), -13);
        due("from below 0", x.copy(0, -1, 1, 0, 1), -13);
        due("to below 0", x.copy(0, 0, 1, -1, 1), -13);
        due("fewer than none", x.copy(0, 1, 1, 1, -1), -13);
        due("so many that sums wrap round", x.copy(0, 1, 1, 1, Integer.MAX_VALUE), -13);
        due("so far that sums wrap round", x.copy(0, Integer.MAX_VALUE, 1, Integer.MAX_VALUE, 1), -13);
        rowOf(x, 2, 2, 1, 2);
        due("another SORT", x.copy(0, 0, 2, 0, 9), -12);
        x.keep(3, 1, 0, 0);
        due("one, no ROW", x.copy(3, 0, 0, 0, 1), -12);
        due("one, no ROW", x.copy(0, 0, 3, 0, 1), -12);
        rowOf(x, 5, 0, 1, 2);
        due("one, no ROW of bytes", x.copy(3, 0, 5, 0, 0), -12);
        due("one, no ROW of bytes", x.copy(5, 0, 3, 0, 0), -12);
        due("nothing goes before another kind", x.copy(3, 0, 4, 0, 1), -11);
        due("nothing there", x.copy(4, 0, 0, 0, 1), -11);
        due("no such shelf", x.copy(4, 0, 8, 0, 1), -1);
        due("no such shelf", x.copy(-1, 0, 0, 0, 1), -1);
        due("nothing was changed", x.element(1, 1), 4);
    }

    private static void cost() {
        int[] costs = {2, 1, 2 + 7, 3, 7, 18, 0, 1};
        ToldWhereItWas x = new ToldWhereItWas();
        for (int kind = 0; kind < 8; kind++) {
            x.keep(0, 1, kind, 7);
            due("COST of KIND " + kind, x.cost(0), costs[kind]);
        }
        x.row(0, 0, 1);
        due("a ROW", x.cost(0), -12);
        due("nothing there", x.cost(1), -11);
        due("no such shelf", x.cost(8), -1);
        due("no such shelf", x.cost(-1), -1);
    }

    private static void toss() {
        int[] failures = {7, -15, 107, 7, -15, 107, 214, -15};
        ToldWhereItWas x = new ToldWhereItWas();
        for (int kind = 0; kind < 8; kind++) {
            x.keep(0, 1, kind, 7);
            due("FAILURE of KIND " + kind, x.toss(0), failures[kind]);
            x.keep(0, 1, kind, 0);
            due("FAILURE of FIGURE 0, KIND " + kind, x.toss(0), -15);
        }
        x.row(0, 0, 1);
        due("a ROW", x.toss(0), -12);
        due("nothing there", x.toss(1), -11);
        due("no such shelf", x.toss(8), -1);
        due("no such shelf", x.toss(-1), -1);
    }
}
