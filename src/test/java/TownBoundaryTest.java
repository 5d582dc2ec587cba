/** The boundary cases of promises 1 to 11: the town as told. */
public final class TownBoundaryTest {
    private static final int MAN = Boundary.MAN;
    private static final int OLD = Boundary.OLD;
    private static final int LIAR = Boundary.LIAR;
    private static final int SERVANT = Boundary.SERVANT;
    private static final int DOWAGER = Boundary.DOWAGER;
    private static final int PEDLAR = Boundary.PEDLAR;
    private static final int BURGLAR = Boundary.BURGLAR;
    private static final int SILENT = Boundary.SILENT;
    private static final String[] STATEMENTS = {"t240959;", "p199;", "l0011;", "o00;", "c04;", "d01;"};

    public static void main(String[] args) {
        Boundary.main(TownBoundaryTest.class, 1, 11);
    }

    private static void told(String words) {
        Boundary.told(words);
    }

    private static void due(String call, long got, long want) {
        Boundary.due(call, got, want);
    }

    private static int tell(ToldWhereItWas x, String text) {
        return Boundary.tell(x, text);
    }

    private static ToldWhereItWas townOf(String text) {
        return Boundary.townOf(text);
    }

    // ---- promise 1

    static void promise01_nobody() {
        told("Nobody, nothing owned.");
        ToldWhereItWas before = townOf("p000;d01;");
        ToldWhereItWas x = new ToldWhereItWas();
        due("count(0)", x.count(0), 0);
        due("one(0, 0)", x.one(0, 0), -1);
        due("count(0) of another", before.count(0), 1);
    }

    static void promise01_nothingOwned() {
        told("Nobody, nothing owned.");
        ToldWhereItWas x = new ToldWhereItWas();
        due("count(2)", x.count(2), 0);
        due("richest(1)", x.richest(1), 31);
    }

    static void promise01_allFactsTrueAtFirst() {
        told("which of FACTS 0 .. 11 are TRUE of it (bits; all at first)");
        for (int t = 0; t < 5; t++) {
            due("thing(" + t + ", 0)", new ToldWhereItWas().thing(t, 0), 4095);
        }
    }

    static void promise01_worth1AtFirst() {
        told("a WORTH (0 .. 9; 1 at first)");
        for (int t = 0; t < 5; t++) {
            due("thing(" + t + ", 1)", new ToldWhereItWas().thing(t, 1), 1);
        }
    }

    static void promise01_ownerNobodyAtFirst() {
        told("an OWNER (one of PEOPLE, or nobody: 9; 9 at first)");
        for (int t = 0; t < 5; t++) {
            due("thing(" + t + ", 2)", new ToldWhereItWas().thing(t, 2), -4);
        }
    }

    static void promise01_day0AtFirst() {
        told("DAY (0 .. 999; 0 at first)");
        due("count(1)", new ToldWhereItWas().count(1), 0);
    }

    static void promise01_shelvesHoldNothingAtFirst() {
        told("SHELVES 0 .. 7 each hold nothing (at first)");
        ToldWhereItWas x = new ToldWhereItWas();
        for (int d = 0; d < 8; d++) {
            due("cost(" + d + ")", x.cost(d), -11);
            due("put(" + d + ", 0, 0)", x.put(d, 0, 0), -11);
        }
    }

    static void promise01_noImageAtFirst() {
        told("Nobody, nothing owned.");
        due("restore()", new ToldWhereItWas().restore(), -3);
    }

    static void promise01_the512thCall() {
        told("An object is used for at most 512 calls after it has been made");
        ToldWhereItWas x = new ToldWhereItWas();
        for (int i = 0; i < 511; i++) {
            x.days(1);
        }
        due("count(1)", x.count(1), 511);
    }

    // ---- promise 2: the shelf of the text

    static void promise02_noSuchShelf() {
        told("-1, -11, -12 (no ROW of bytes).");
        ToldWhereItWas x = new ToldWhereItWas();
        for (int d : Boundary.outside(0, 7)) {
            due("town(" + d + ")", x.town(d), -1);
        }
    }

    static void promise02_firstAndLastShelf() {
        told("The text in SHELF d: how many STATEMENTS");
        ToldWhereItWas x = new ToldWhereItWas();
        for (int d = 0; d < 8; d += 7) {
            Boundary.write(x, d, "d01;");
            due("town(" + d + ")", x.town(d), 1);
        }
        due("count(1)", x.count(1), 2);
    }

    static void promise02_nothingThere() {
        told("-1, -11, -12 (no ROW of bytes).");
        ToldWhereItWas x = new ToldWhereItWas();
        due("town(3)", x.town(3), -11);
        x.row(3, 0, 0);
        x.keep(3, 0, 0, 0);
        due("town(3) when all is gone", x.town(3), -11);
    }

    static void promise02_oneThere() {
        told("-1, -11, -12 (no ROW of bytes).");
        ToldWhereItWas x = new ToldWhereItWas();
        x.keep(3, 1, MAN, 0);
        due("town(3)", x.town(3), -12);
    }

    static void promise02_rowOfShortsOrInts() {
        told("-1, -11, -12 (no ROW of bytes).");
        ToldWhereItWas x = new ToldWhereItWas();
        for (int sort = 1; sort <= 2; sort++) {
            Boundary.rowOf(x, 3, sort, 'd', '0', '1', ';');
            due("town(3) of sort " + sort, x.town(3), -12);
        }
        due("count(1)", x.count(1), 0);
    }

    static void promise02_anotherKindGoesBeforeTheFault() {
        told("Answers of several REFUSALS are the first one as they are told at the call.");
        ToldWhereItWas x = new ToldWhereItWas();
        x.row(3, 1, 0);
        due("town(3), an empty ROW of shorts", x.town(3), -12);
    }

    static void promise02_theRowStays() {
        told("The ROW of a text, and what is taken from a SHELF, stay there");
        ToldWhereItWas x = new ToldWhereItWas();
        Boundary.write(x, 3, "p019;");
        due("town(3)", x.town(3), 1);
        due("town(3) once more", x.town(3), 1);
        due("element(3, 4)", x.element(3, 4), ';');
        Boundary.write(x, 3, "p119;p888;");
        due("town(3) with a FAULT", x.town(3), -2005);
        due("element(3, 6)", x.element(3, 6), '8');
        due("count(0)", x.count(0), 2);
    }

    // ---- promise 2: faults of kind 1

    static void promise02_anEmptyText() {
        told("STATEMENTS, each with \";\" behind, one at least");
        due("no byte at all", tell(new ToldWhereItWas(), ""), -1000);
    }

    static void promise02_oneStatementIsEnough() {
        told("STATEMENTS, each with \";\" behind, one at least");
        due("d60;", tell(new ToldWhereItWas(), "d60;"), 1);
    }

    static void promise02_eachStatementHasASemicolonBehind() {
        told("STATEMENTS, each with \";\" behind, one at least");
        due(";", tell(new ToldWhereItWas(), ";"), -1000);
        due("d01;;", tell(new ToldWhereItWas(), "d01;;"), -1004);
        due("d01d01;", tell(new ToldWhereItWas(), "d01d01;"), -1003);
        due("d01;d01", tell(new ToldWhereItWas(), "d01;d01"), -1007);
    }

    static void promise02_theEndIfSomethingLacks() {
        told("kind 1 the place of the first byte with which no TOWN can go on (the end, if something lacks): -1000 less the place");
        for (String statement : STATEMENTS) {
            for (int n = 1; n < statement.length(); n++) {
                String text = statement.substring(0, n);
                due(text, tell(new ToldWhereItWas(), text), -1000 - n);
                due("d01;" + text, tell(new ToldWhereItWas(), "d01;" + text), -1004 - n);
            }
        }
    }

    static void promise02_eachByteWithWhichNoTownCanGoOn() {
        told("the place of the first byte with which no TOWN can go on");
        char[] bytes = {'/', ':', ' ', '-', 'a', 'd', ';', 0, 127, 128, 176, 255};
        for (String statement : STATEMENTS) {
            for (int i = 0; i < statement.length(); i++) {
                for (char wrong : bytes) {
                    boolean fits = wrong == statement.charAt(i) || i == 0 && wrong == 'd';
                    if (!fits) {
                        String text = "p009;" + statement.substring(0, i) + wrong + statement.substring(i + 1);
                        due(text, tell(new ToldWhereItWas(), text), -1005 - i);
                    }
                }
            }
        }
    }

    static void promise02_sixLettersAlone() {
        told("the place of the first byte with which no TOWN can go on");
        for (int letter = -128; letter < 128; letter++) {
            ToldWhereItWas x = new ToldWhereItWas();
            Boundary.rowOf(x, 0, 0, letter);
            due("town(0) of the letter " + letter, x.town(0), "tplocd".indexOf((char) letter) < 0 ? -1000 : -1001);
        }
    }

    static void promise02_oneDigitFewer() {
        told("numbers in THE TEXT have just as many digits as told");
        for (String statement : STATEMENTS) {
            String text = statement.charAt(0) + statement.substring(2);
            due(text, tell(new ToldWhereItWas(), text), -1000 - (text.length() - 1));
        }
    }

    static void promise02_oneDigitMore() {
        told("numbers in THE TEXT have just as many digits as told");
        for (String statement : STATEMENTS) {
            String text = statement.charAt(0) + "0" + statement.substring(1);
            due(text, tell(new ToldWhereItWas(), text), -1000 - (statement.length() - 1));
        }
    }

    static void promise02_bytesBehindTheLastSemicolon() {
        told("the place of the first byte with which no TOWN can go on");
        ToldWhereItWas x = new ToldWhereItWas();
        x.row(0, 0, 6);
        Boundary.rowOf(x, 0, 0, 'd', '0', '1', ';', 0, 0);
        due("town(0)", x.town(0), -1004);
    }

    static void promise02_kind1GoesBeforeKind2() {
        told("FAULT: kind 1 the place of the first byte with which no TOWN can go on (the end, if something lacks): -1000 less the place; else kind 2");
        due("p800;x", tell(new ToldWhereItWas(), "p800;x"), -1005);
        due("d00;d00;d0", tell(new ToldWhereItWas(), "d00;d00;d0"), -1010);
    }

    static void promise02_theFirstOfSeveralFaultsOfKind1() {
        told("the place of the first byte with which no TOWN can go on");
        due("d0x;yz", tell(new ToldWhereItWas(), "d0x;yz"), -1002);
    }

    static void promise02_aFullRow() {
        told("0 .. 100 elements");
        due("100 bytes", tell(Boundary.men(1), "c04;".repeat(25)), 25);
        due("100 bytes, the last one wrong", tell(Boundary.men(1), "c04;".repeat(24) + "c04c"), -1099);
        due("100 bytes, a digit lacks", tell(new ToldWhereItWas(), "p009;l0000;" + "c00;".repeat(22) + "d"), -1100);
        due("100 bytes, a semicolon lacks", tell(Boundary.men(1), "c04;".repeat(24) + "p009"), -1100);
    }

    // ---- promise 2: faults of kind 2

    static void promise02_thePlaceOfTheLetter() {
        told("kind 2 the place of the letter of the first STATEMENT that is not as it must be");
        due("p800;", tell(new ToldWhereItWas(), "p800;"), -2000);
        due("d01;p800;", tell(new ToldWhereItWas(), "d01;p800;"), -2004);
        due("100 bytes", tell(Boundary.men(1), "c04;".repeat(24) + "c05;"), -2096);
    }

    static void promise02_theFirstOfSeveralFaultsOfKind2() {
        told("the first that can't be done so is told (kind 2)");
        due("d01;p005;p800;d00;", tell(new ToldWhereItWas(), "d01;p005;p800;d00;"), -2004);
    }

    static void promise02_thingOutOfRange() {
        told("\"t\" a THING (a digit), TRUE (4 digits, 0 .. 4095), WORTH (a digit)");
        due("t440951;", tell(new ToldWhereItWas(), "t440951;"), 1);
        due("t540951;", tell(new ToldWhereItWas(), "t540951;"), -2000);
        due("t940951;", tell(new ToldWhereItWas(), "t940951;"), -2000);
    }

    static void promise02_trueOutOfRange() {
        told("TRUE (4 digits, 0 .. 4095)");
        ToldWhereItWas x = new ToldWhereItWas();
        due("t000001;", tell(x, "t000001;"), 1);
        due("thing(0, 0)", x.thing(0, 0), 0);
        due("t040951;", tell(x, "t040951;"), 1);
        due("thing(0, 0)", x.thing(0, 0), 4095);
        due("t040961;", tell(x, "t040961;"), -2000);
        due("t099991;", tell(x, "t099991;"), -2000);
        due("thing(0, 0)", x.thing(0, 0), 4095);
    }

    static void promise02_worthToBothEnds() {
        told("a WORTH (0 .. 9; 1 at first)");
        ToldWhereItWas x = townOf("t040950;t440959;");
        due("thing(0, 1)", x.thing(0, 1), 0);
        due("thing(4, 1)", x.thing(4, 1), 9);
    }

    static void promise02_kindOutOfRange() {
        told("\"p\" KIND, FIGURE, CARES (a digit each): one more");
        ToldWhereItWas x = new ToldWhereItWas();
        due("p000;p700;", tell(x, "p000;p700;"), 2);
        due("one(1, 0)", x.one(1, 0), SILENT);
        due("p800;", tell(x, "p800;"), -2000);
        due("p900;", tell(x, "p900;"), -2000);
    }

    static void promise02_figureToBothEnds() {
        told("each with a FIGURE (0 .. 9)");
        ToldWhereItWas x = townOf("p000;p090;");
        due("one(0, 1)", x.one(0, 1), 0);
        due("one(1, 1)", x.one(1, 1), 9);
    }

    static void promise02_caresOfOneMore() {
        told("what he CARES for (a THING, or nothing: 9)");
        for (int care = 0; care < 10; care++) {
            boolean fits = care < 5 || care == 9;
            String text = "p00" + care + ";";
            due(text, tell(new ToldWhereItWas(), text), fits ? 1 : -2000);
        }
    }

    static void promise02_noSuchOneKnows() {
        told("\"l\" one, a THING (a digit each), a FACT (2 digits): he KNOWS it");
        due("l0000; of nobody", tell(new ToldWhereItWas(), "l0000;"), -2000);
        due("l1000; of two", tell(Boundary.men(2), "l1000;"), 1);
        due("l2000; of two", tell(Boundary.men(2), "l2000;"), -2000);
        due("l6000; of seven", tell(Boundary.men(7), "l6000;"), 1);
        due("l7000; of seven", tell(Boundary.men(7), "l7000;"), -2000);
        due("l9000; of seven", tell(Boundary.men(7), "l9000;"), -2000);
    }

    static void promise02_noSuchThingIsKnown() {
        told("\"l\" one, a THING (a digit each), a FACT (2 digits): he KNOWS it");
        due("l0400;", tell(Boundary.men(1), "l0400;"), 1);
        due("l0500;", tell(Boundary.men(1), "l0500;"), -2000);
    }

    static void promise02_noSuchFactIsKnown() {
        told("\"l\" one, a THING (a digit each), a FACT (2 digits): he KNOWS it");
        ToldWhereItWas x = Boundary.men(1);
        due("l0000;", tell(x, "l0000;"), 1);
        due("l0011;", tell(x, "l0011;"), 1);
        due("story(0, 0, 0)", x.story(0, 0, 0), 1 + 2048);
        due("l0012;", tell(x, "l0012;"), -2000);
        due("l0099;", tell(x, "l0099;"), -2000);
        due("story(0, 0, 0)", x.story(0, 0, 0), 1 + 2048);
    }

    static void promise02_toldAgainNot() {
        told("he KNOWS it, or, told again, not");
        due("twice", townOf("p009;l0003;l0003;").story(0, 0, 0), 0);
        due("three times", townOf("p009;l0003;l0003;l0003;").story(0, 0, 0), 8);
        ToldWhereItWas x = townOf("p000;d01;");
        due("a FACT that he LEARNED", tell(x, "l0000;"), 1);
        due("story(0, 0, 0)", x.story(0, 0, 0), 0);
    }

    static void promise02_noSuchThingIsOwned() {
        told("\"o\" a THING, one (a digit each; 9 nobody): its OWNER");
        due("o40;", tell(Boundary.men(1), "o40;"), 1);
        due("o50;", tell(Boundary.men(1), "o50;"), -2000);
    }

    static void promise02_noSuchOneOwns() {
        told("\"o\" a THING, one (a digit each; 9 nobody): its OWNER");
        due("o00; of nobody", tell(new ToldWhereItWas(), "o00;"), -2000);
        due("o01; of two", tell(Boundary.men(2), "o01;"), 1);
        due("o02; of two", tell(Boundary.men(2), "o02;"), -2000);
        due("o06; of seven", tell(Boundary.men(7), "o06;"), 1);
        due("o07; of seven", tell(Boundary.men(7), "o07;"), -2000);
        due("o08; of seven", tell(Boundary.men(7), "o08;"), -2000);
    }

    static void promise02_ownerNobody() {
        told("\"o\" a THING, one (a digit each; 9 nobody): its OWNER");
        due("o09; of nobody", tell(new ToldWhereItWas(), "o09;"), 1);
        due("o00;o09;", townOf("p009;o00;o09;").thing(0, 2), -4);
    }

    static void promise02_noSuchOneCares() {
        told("\"c\" one, CARES (a digit each)");
        due("c00; of nobody", tell(new ToldWhereItWas(), "c00;"), -2000);
        due("c10; of two", tell(Boundary.men(2), "c10;"), 1);
        due("c20; of two", tell(Boundary.men(2), "c20;"), -2000);
        due("c90; of seven", tell(Boundary.men(7), "c90;"), -2000);
    }

    static void promise02_caresOutOfRange() {
        told("\"c\" one, CARES (a digit each)");
        for (int care = 0; care < 10; care++) {
            boolean fits = care < 5 || care == 9;
            due("c0" + care + ";", tell(Boundary.men(1), "c0" + care + ";"), fits ? 1 : -2000);
        }
    }

    static void promise02_daysOutOfRange() {
        told("\"d\" DAYS (2 digits, 1 .. 60)");
        due("d00;", tell(new ToldWhereItWas(), "d00;"), -2000);
        due("d01;", tell(new ToldWhereItWas(), "d01;"), 1);
        due("d60;", tell(new ToldWhereItWas(), "d60;"), 1);
        due("d61;", tell(new ToldWhereItWas(), "d61;"), -2000);
        due("d99;", tell(new ToldWhereItWas(), "d99;"), -2000);
    }

    static void promise02_dayAbove999() {
        told("days() is refused (-3; in THE TEXT kind 2), if DAY and n together are above 999; none of them goes then");
        ToldWhereItWas x = Boundary.townOnDay(940, "p000;");
        due("d60;", tell(x, "d60;"), -2000);
        due("count(1)", x.count(1), 940);
        due("d59;", tell(x, "d59;"), 1);
        due("count(1)", x.count(1), 999);
        due("p000;d01;", tell(x, "p000;d01;"), -2005);
        due("count(0)", x.count(0), 1);
    }

    static void promise02_dayAbove999ByDaysOfTheText() {
        told("STATEMENTS are tried one behind the other, each on what those ahead of it made");
        ToldWhereItWas x = Boundary.townOnDay(900, "p000;");
        due("d60;d40;", tell(x, "d60;d40;"), -2004);
        due("count(1)", x.count(1), 900);
        due("d60;d39;", tell(x, "d60;d39;"), 2);
        due("count(1)", x.count(1), 999);
    }

    static void promise02_noRoom() {
        told("PEOPLE 0 .. 6 as they come (7 at most)");
        ToldWhereItWas x = new ToldWhereItWas();
        due("seven", tell(x, "p000;".repeat(7)), 7);
        due("an eighth", tell(x, "p000;"), -2000);
        due("eight", tell(new ToldWhereItWas(), "p000;".repeat(8)), -2035);
        due("two more than six", tell(Boundary.men(6), "d01;p000;p000;"), -2009);
        due("one more than six", tell(Boundary.men(6), "d01;p000;"), 2);
    }

    static void promise02_noSuchOneYet() {
        told("each on what those ahead of it made");
        due("l0000;p009;", tell(new ToldWhereItWas(), "l0000;p009;"), -2000);
        due("c00;p009;", tell(new ToldWhereItWas(), "c00;p009;"), -2000);
        due("o00;p009;", tell(new ToldWhereItWas(), "o00;p009;"), -2000);
        due("p009;l0000;c00;o00;", tell(new ToldWhereItWas(), "p009;l0000;c00;o00;"), 4);
    }

    static void promise02_withAFaultOfKind1Nothing() {
        told("Without FAULT all of it comes, with one nothing.");
        ToldWhereItWas x = townOf("p370;p189;l0002;o10;d03;");
        Boundary.write(x, 0, "t200008;p444;l0003;o21;c11;d02;x");
        String before = Boundary.picture(x);
        due("town(0)", x.town(0), -1031);
        Boundary.unchanged(x, before);
    }

    static void promise02_withAFaultOfKind2Nothing() {
        told("Without FAULT all of it comes, with one nothing.");
        ToldWhereItWas x = townOf("p370;p189;l0002;o10;d03;");
        Boundary.write(x, 0, "t200008;p444;l0003;o21;c11;d02;d00;");
        String before = Boundary.picture(x);
        due("town(0)", x.town(0), -2031);
        Boundary.unchanged(x, before);
        x.put(0, 33, '1');
        due("town(0) without FAULT", x.town(0), 7);
        due("count(1)", x.count(1), 6);
    }

    // ---- promise 3

    static void promise03_noSuchOne() {
        told("-1 no such one, one twice, a number out of its range");
        due("one(0, 0) of nobody", new ToldWhereItWas().one(0, 0), -1);
        ToldWhereItWas x = Boundary.men(2);
        for (int p : Boundary.outside(0, 1)) {
            due("one(" + p + ", 0)", x.one(p, 0), -1);
        }
        due("one(1, 2)", x.one(1, 2), 9);
        ToldWhereItWas y = Boundary.men(7);
        due("one(6, 2) of seven", y.one(6, 2), 9);
        due("one(7, 2) of seven", y.one(7, 2), -1);
    }

    static void promise03_noSuchWhat() {
        told("LEARNS on the next DAY (4; 0 he CARES for nothing). -1.");
        ToldWhereItWas x = townOf("p600;");
        due("one(0, 0)", x.one(0, 0), BURGLAR);
        due("one(0, 4)", x.one(0, 4), 3);
        for (int what : Boundary.outside(0, 4)) {
            due("one(0, " + what + ")", x.one(0, what), -1);
        }
    }

    static void promise03_firstAndLastKind() {
        told("KINDS: 0 MAN; 1 OLD under MAN; 2 LIAR under MAN; 3 SERVANT under MAN; 4 DOWAGER under OLD; 5 PEDLAR under LIAR; 6 BURGLAR under SERVANT; 7 SILENT under OLD.");
        due("one(0, 0) of a MAN", townOf("p000;").one(0, 0), MAN);
        due("one(0, 0) of a SILENT one", townOf("p700;").one(0, 0), SILENT);
    }

    static void promise03_caresForNothing() {
        told("what he CARES for (a THING, or nothing: 9)");
        due("one(0, 2)", Boundary.men(1).one(0, 2), 9);
    }

    static void promise03_ownsNothingAndAll() {
        told("what he OWNS (3, bits)");
        ToldWhereItWas x = Boundary.men(2);
        due("one(0, 3)", x.one(0, 3), 0);
        for (int t = 0; t < 5; t++) {
            x.gives(t, 1);
        }
        due("one(0, 3)", x.one(0, 3), 0);
        due("one(1, 3)", x.one(1, 3), 31);
    }

    static void promise03_whoCaresForNothingLearnsNone() {
        told("LEARNS on the next DAY (4; 0 he CARES for nothing)");
        for (int kind = 0; kind < 8; kind++) {
            due("one(0, 4) of kind " + kind, Boundary.townOnDay(1, "p" + kind + "99;").one(0, 4), 0);
        }
    }

    static void promise03_whatEachKindLearns() {
        told("LEARNS (how many FACTS a DAY, of DAY d)");
        int[] onOddDays = {1, 0, 2, 2, 0, 4, 3, 0};
        int[] onEvenDays = {1, 1, 2, 2, 1, 4, 3, 0};
        for (int kind = 0; kind < 8; kind++) {
            String text = "p" + kind + "90;";
            due("one(0, 4) on DAY 0 of kind " + kind, townOf(text).one(0, 4), onOddDays[kind]);
            due("one(0, 4) on DAY 1 of kind " + kind, Boundary.townOnDay(1, text).one(0, 4), onEvenDays[kind]);
            due("one(0, 4) on DAY 2 of kind " + kind, Boundary.townOnDay(2, text).one(0, 4), onOddDays[kind]);
        }
    }

    static void promise03_servantWhoOwns() {
        told("SERVANT 1, 2 if he is not the OWNER of what he CARES for");
        ToldWhereItWas x = townOf("p300;o10;o20;o30;o40;");
        due("one(0, 4), all others are his", x.one(0, 4), 2);
        x.gives(0, 0);
        due("one(0, 4), it is his", x.one(0, 4), 1);
        x.gives(0, 9);
        due("one(0, 4), it is nobody's", x.one(0, 4), 2);
    }

    static void promise03_burglarWhoOwns() {
        told("BURGLAR 3; SILENT 0.");
        due("one(0, 4)", townOf("p600;o00;").one(0, 4), 3);
    }

    static void promise03_pedlarsByFigure() {
        told("PEDLAR FIGURE by 2, cut");
        int[] lessons = {0, 0, 1, 1, 2, 2, 3, 3, 4, 4};
        for (int figure = 0; figure < 10; figure++) {
            due("one(0, 4) of FIGURE " + figure, townOf("p5" + figure + "0;").one(0, 4), lessons[figure]);
        }
    }

    // ---- promise 4

    static void promise04_noSuchThing() {
        told("THINGS 0 .. 4, each with a PAST");
        ToldWhereItWas x = townOf("t000110;t400229;");
        due("thing(0, 0)", x.thing(0, 0), 11);
        due("thing(4, 0)", x.thing(4, 0), 22);
        for (int t : Boundary.outside(0, 4)) {
            for (int what = 0; what < 3; what++) {
                due("thing(" + t + ", " + what + ")", x.thing(t, what), -1);
            }
        }
    }

    static void promise04_noSuchWhat() {
        told("TRUE (what 0, bits), WORTH (1), OWNER (2; -4). -1.");
        ToldWhereItWas x = new ToldWhereItWas();
        for (int what : Boundary.outside(0, 2)) {
            due("thing(0, " + what + ")", x.thing(0, what), -1);
        }
    }

    static void promise04_noOwner() {
        told("OWNER (2; -4)");
        ToldWhereItWas x = Boundary.men(7);
        due("thing(4, 2)", x.thing(4, 2), -4);
        x.gives(4, 0);
        due("thing(4, 2) of the first", x.thing(4, 2), 0);
        x.gives(4, 6);
        due("thing(4, 2) of the last", x.thing(4, 2), 6);
        x.gives(4, 9);
        due("thing(4, 2) of nobody again", x.thing(4, 2), -4);
    }

    // ---- promise 5

    static void promise05_noSuchOne() {
        told("What one KNOWS of a THING (what 0, bits), STORY (1). -1.");
        due("story(0, 0, 0) of nobody", new ToldWhereItWas().story(0, 0, 0), -1);
        ToldWhereItWas x = Boundary.men(2);
        for (int p : Boundary.outside(0, 1)) {
            due("story(" + p + ", 0, 0)", x.story(p, 0, 0), -1);
            due("story(" + p + ", 0, 1)", x.story(p, 0, 1), -1);
        }
        due("story(6, 4, 1) of seven", Boundary.men(7).story(6, 4, 1), 0);
    }

    static void promise05_noSuchThing() {
        told("What one KNOWS of a THING (what 0, bits), STORY (1). -1.");
        ToldWhereItWas x = Boundary.men(1);
        due("story(0, 0, 0)", x.story(0, 0, 0), 0);
        due("story(0, 4, 0)", x.story(0, 4, 0), 0);
        for (int t : Boundary.outside(0, 4)) {
            due("story(0, " + t + ", 0)", x.story(0, t, 0), -1);
        }
    }

    static void promise05_noSuchWhat() {
        told("What one KNOWS of a THING (what 0, bits), STORY (1). -1.");
        ToldWhereItWas x = Boundary.men(1);
        for (int what : Boundary.outside(0, 1)) {
            due("story(0, 0, " + what + ")", x.story(0, 0, what), -1);
        }
    }

    static void promise05_knowsNoneAndAll() {
        told("of each THING what he KNOWS (bits of FACTS; none at first)");
        ToldWhereItWas x = Boundary.men(1);
        for (int t = 0; t < 5; t++) {
            due("story(0, " + t + ", 0)", x.story(0, t, 0), 0);
        }
        Boundary.teach(x, 0, 4, 0, 11);
        due("story(0, 4, 0)", x.story(0, 4, 0), 4095);
        due("story(0, 3, 0)", x.story(0, 3, 0), 0);
    }

    /** STORY of one who KNOWS FACTS from one to another, where FACTS are TRUE as bits. */
    private static int storyOf(int kind, int figure, int from, int to, int truth) {
        ToldWhereItWas x = townOf("p" + kind + figure + "9;");
        Boundary.teach(x, 0, 2, from, to);
        x.past(2, truth);
        return x.story(0, 2, 1);
    }

    static void promise05_whoKnowsNothingHasNoStory() {
        told("STORY of one for a THING (by TRUE FACTS he KNOWS, and others he KNOWS, FALSE)");
        for (int kind = 0; kind < 8; kind++) {
            due("STORY of kind " + kind, storyOf(kind, 9, 0, -1, 4095), 0);
        }
    }

    static void promise05_storiesOfAllFacts() {
        told("STORY of one for a THING (by TRUE FACTS he KNOWS, and others he KNOWS, FALSE)");
        int[] stories = {12, 12 + 3, 12, 12 + 6, 12 + 3 + 2, 12, 12 + 6 - 1, 0};
        for (int kind = 0; kind < 8; kind++) {
            due("STORY of kind " + kind, storyOf(kind, 9, 0, 11, 4095), stories[kind]);
        }
    }

    static void promise05_storiesOfFalseFactsAlone() {
        told("STORY of one for a THING (by TRUE FACTS he KNOWS, and others he KNOWS, FALSE)");
        int[] stories = {0, 0, 6, 0, 0, 6, 0, 0};
        for (int kind = 0; kind < 8; kind++) {
            due("STORY of kind " + kind, storyOf(kind, 9, 0, 11, 0), stories[kind]);
        }
    }

    static void promise05_oldWithoutTrueOnes() {
        told("OLD FIGURE by 3, cut, more, if there are any");
        due("no TRUE one", storyOf(OLD, 9, 0, 3, 4095 - 15), 0);
        due("one TRUE one", storyOf(OLD, 9, 0, 3, 4095 - 14), 4);
    }

    static void promise05_oldByFigure() {
        told("OLD FIGURE by 3, cut, more, if there are any");
        int[] more = {0, 0, 0, 1, 1, 1, 2, 2, 2, 3};
        for (int figure = 0; figure < 10; figure++) {
            due("FIGURE " + figure, storyOf(OLD, figure, 11, 11, 4095), 1 + more[figure]);
        }
    }

    static void promise05_liarByFalseOnes() {
        told("LIAR half of the FALSE ones, cut, more than a MAN");
        int[] halves = {0, 0, 1, 1, 2, 2};
        for (int n = 0; n < 6; n++) {
            due(n + " FALSE ones of a LIAR", storyOf(LIAR, 9, 0, n, 1), 1 + halves[n]);
        }
    }

    static void promise05_pedlarAsALiar() {
        told("PEDLAR as a LIAR");
        int[] halves = {0, 0, 1, 1, 2, 2};
        for (int n = 0; n < 6; n++) {
            due(n + " FALSE ones of a PEDLAR", storyOf(PEDLAR, 9, 0, n, 1), 1 + halves[n]);
        }
    }

    static void promise05_servantByLateFacts() {
        told("SERVANT as many more as are TRUE of FACTS 6 .. 11");
        due("FACT 5", storyOf(SERVANT, 9, 5, 5, 4095), 1);
        due("FACT 6", storyOf(SERVANT, 9, 6, 6, 4095), 2);
        due("FACT 11", storyOf(SERVANT, 9, 11, 11, 4095), 2);
        due("FACTS 5 and 6", storyOf(SERVANT, 9, 5, 6, 4095), 3);
        due("FACTS 6 and 7, FALSE", storyOf(SERVANT, 9, 6, 7, 63), 0);
    }

    static void promise05_dowagerWithoutTrueOnes() {
        told("DOWAGER 2 more than an OLD one, if there are any");
        due("no TRUE one", storyOf(DOWAGER, 9, 0, 3, 4095 - 15), 0);
        due("one TRUE one, FIGURE 2", storyOf(DOWAGER, 2, 0, 0, 4095), 3);
        due("one TRUE one, FIGURE 3", storyOf(DOWAGER, 3, 0, 0, 4095), 4);
    }

    static void promise05_burglar0AtLeast() {
        told("BURGLAR 1 less than a SERVANT (0 at least)");
        due("no FACT", storyOf(BURGLAR, 9, 0, -1, 4095), 0);
        due("FACT 0", storyOf(BURGLAR, 9, 0, 0, 4095), 0);
        due("FACTS 0 and 1", storyOf(BURGLAR, 9, 0, 1, 4095), 1);
        due("FACT 6", storyOf(BURGLAR, 9, 6, 6, 4095), 1);
    }

    static void promise05_silent() {
        told("SILENT 0. LEARNS");
        due("all FACTS, all TRUE", storyOf(SILENT, 9, 0, 11, 4095), 0);
    }

    // ---- promise 6

    static void promise06_numbersAsTheyCome() {
        told("The one on SHELF d more, who CARES for a THING (or 9): the number.");
        ToldWhereItWas x = new ToldWhereItWas();
        x.keep(0, 1, MAN, 1);
        for (int p = 0; p < 7; p++) {
            due("comes(0, 0)", x.comes(0, 0), p);
        }
    }

    static void promise06_asOnTheShelf() {
        told("The one on SHELF d more, who CARES for a THING (or 9): the number.");
        ToldWhereItWas x = new ToldWhereItWas();
        int[][] ones = {{MAN, 0, 0}, {SILENT, 9, 9}, {DOWAGER, 4, 4}};
        for (int p = 0; p < ones.length; p++) {
            x.keep(0, 1, ones[p][0], ones[p][1]);
            due("comes(0, " + ones[p][2] + ")", x.comes(0, ones[p][2]), p);
            for (int what = 0; what < 3; what++) {
                due("one(" + p + ", " + what + ")", x.one(p, what), ones[p][what]);
            }
        }
    }

    static void promise06_noRoom() {
        told("-2 there is no room");
        ToldWhereItWas x = Boundary.men(6);
        x.keep(0, 1, MAN, 1);
        due("the seventh", x.comes(0, 0), 6);
        String before = Boundary.picture(x);
        due("an eighth", x.comes(0, 0), -2);
        due("one more", x.comes(0, 9), -2);
        Boundary.unchanged(x, before);
    }

    static void promise06_roomAgainByTheImage() {
        told("RESTORED all is as it was then");
        ToldWhereItWas x = Boundary.men(6);
        x.keep(0, 1, MAN, 1);
        x.image();
        due("the seventh", x.comes(0, 0), 6);
        x.learns(6, 4, 11);
        x.restore();
        due("the seventh again", x.comes(0, 0), 6);
        due("story(6, 4, 0)", x.story(6, 4, 0), 0);
    }

    static void promise06_noSuchShelf() {
        told("-1, -11, -12 (a ROW), -2.");
        ToldWhereItWas x = new ToldWhereItWas();
        for (int d : Boundary.outside(0, 7)) {
            due("comes(" + d + ", 0)", x.comes(d, 0), -1);
        }
        x.keep(0, 1, MAN, 0);
        x.keep(7, 1, MAN, 0);
        due("comes(0, 0)", x.comes(0, 0), 0);
        due("comes(7, 0)", x.comes(7, 0), 1);
    }

    static void promise06_caresOutOfRange() {
        told("who CARES for a THING (or 9)");
        ToldWhereItWas x = new ToldWhereItWas();
        x.keep(0, 1, MAN, 0);
        due("comes(0, 4)", x.comes(0, 4), 0);
        due("comes(0, 9)", x.comes(0, 9), 1);
        due("one(1, 2)", x.one(1, 2), 9);
        for (int care : Boundary.outside(0, 4)) {
            due("comes(0, " + care + ")", x.comes(0, care), -1);
        }
        due("comes(0, 8)", x.comes(0, 8), -1);
        due("comes(0, 10)", x.comes(0, 10), -1);
        due("count(0)", x.count(0), 2);
    }

    static void promise06_nothingThere() {
        told("-1, -11, -12 (a ROW), -2.");
        due("comes(0, 0)", new ToldWhereItWas().comes(0, 0), -11);
    }

    static void promise06_aRowThere() {
        told("-1, -11, -12 (a ROW), -2.");
        ToldWhereItWas x = new ToldWhereItWas();
        for (int sort = 0; sort < 3; sort++) {
            x.row(0, sort, 2);
            due("comes(0, 0)", x.comes(0, 0), -12);
        }
        due("count(0)", x.count(0), 0);
    }

    static void promise06_whichRefusalGoesFirst() {
        told("-1, -11, -12 (a ROW), -2.");
        ToldWhereItWas x = Boundary.men(7);
        x.keep(0, 1, MAN, 0);
        x.row(1, 0, 1);
        due("comes(0, 5): no such THING, no room", x.comes(0, 5), -1);
        due("comes(1, 5): no such THING, a ROW", x.comes(1, 5), -1);
        due("comes(2, 5): no such THING, nothing there", x.comes(2, 5), -1);
        due("comes(8, 0): no such SHELF, no room", x.comes(8, 0), -1);
        due("comes(2, 0): nothing there, no room", x.comes(2, 0), -11);
        due("comes(1, 0): a ROW, no room", x.comes(1, 0), -12);
    }

    static void promise06_heStaysOnTheShelf() {
        told("what is taken from a SHELF, stay there");
        ToldWhereItWas x = new ToldWhereItWas();
        x.keep(0, 1, LIAR, 3);
        x.comes(0, 0);
        due("cost(0)", x.cost(0), 5);
    }

    // ---- promise 7

    static void promise07_noSuchOne() {
        told("1, 0. -1 any.");
        due("learns(0, 0, 0) of nobody", new ToldWhereItWas().learns(0, 0, 0), -1);
        ToldWhereItWas x = Boundary.men(2);
        for (int p : Boundary.outside(0, 1)) {
            due("learns(" + p + ", 0, 0)", x.learns(p, 0, 0), -1);
        }
        due("count(4)", x.count(4), 0);
        due("learns(1, 0, 0)", x.learns(1, 0, 0), 1);
        due("learns(6, 0, 0) of seven", Boundary.men(7).learns(6, 0, 0), 1);
        due("learns(7, 0, 0) of seven", Boundary.men(7).learns(7, 0, 0), -1);
    }

    static void promise07_noSuchThing() {
        told("1, 0. -1 any.");
        ToldWhereItWas x = Boundary.men(2);
        for (int t : Boundary.outside(0, 4)) {
            due("learns(0, " + t + ", 0)", x.learns(0, t, 0), -1);
            due("learns(1, " + t + ", 0)", x.learns(1, t, 0), -1);
        }
        due("count(4)", x.count(4), 0);
        due("learns(0, 4, 0)", x.learns(0, 4, 0), 1);
        due("story(1, 0, 0)", x.story(1, 0, 0), 0);
    }

    static void promise07_noSuchFact() {
        told("He KNOWS a FACT (0 .. 11) of a THING");
        ToldWhereItWas x = Boundary.men(1);
        due("learns(0, 0, 0)", x.learns(0, 0, 0), 1);
        due("learns(0, 0, 11)", x.learns(0, 0, 11), 1);
        for (int fact : Boundary.outside(0, 11)) {
            due("learns(0, 0, " + fact + ")", x.learns(0, 0, fact), -1);
        }
        due("learns(0, 0, 32)", x.learns(0, 0, 32), -1);
        due("story(0, 0, 0)", x.story(0, 0, 0), 1 + 2048);
    }

    static void promise07_notAnyMore() {
        told("or not any more: 1, 0");
        ToldWhereItWas x = townOf("p000;d02;");
        due("learns(0, 0, 1), which he LEARNED", x.learns(0, 0, 1), 0);
        due("story(0, 0, 0)", x.story(0, 0, 0), 1);
        due("learns(0, 0, 1) again", x.learns(0, 0, 1), 1);
        due("story(0, 0, 0)", x.story(0, 0, 0), 3);
    }

    static void promise07_falseFactsToo() {
        told("(by TRUE FACTS he KNOWS, and others he KNOWS, FALSE)");
        ToldWhereItWas x = townOf("p009;t000001;");
        due("learns(0, 0, 11)", x.learns(0, 0, 11), 1);
        due("story(0, 0, 0)", x.story(0, 0, 0), 2048);
        due("story(0, 0, 1)", x.story(0, 0, 1), 0);
    }

    // ---- promise 8

    static void promise08_noSuchOne() {
        told("CARES becomes another (or 9): the old. -1.");
        due("cares(0, 0) of nobody", new ToldWhereItWas().cares(0, 0), -1);
        ToldWhereItWas x = Boundary.men(2);
        for (int p : Boundary.outside(0, 1)) {
            due("cares(" + p + ", 0)", x.cares(p, 0), -1);
        }
        due("cares(1, 0)", x.cares(1, 0), 9);
        due("cares(6, 0) of seven", Boundary.men(7).cares(6, 0), 9);
    }

    static void promise08_outOfRange() {
        told("CARES becomes another (or 9): the old. -1.");
        ToldWhereItWas x = townOf("p002;");
        for (int t : Boundary.outside(0, 4)) {
            due("cares(0, " + t + ")", x.cares(0, t), -1);
        }
        due("cares(0, 8)", x.cares(0, 8), -1);
        due("cares(0, 10)", x.cares(0, 10), -1);
        due("one(0, 2)", x.one(0, 2), 2);
    }

    static void promise08_theOldOne() {
        told("CARES becomes another (or 9): the old. -1.");
        ToldWhereItWas x = townOf("p000;");
        due("cares(0, 4)", x.cares(0, 4), 0);
        due("cares(0, 9)", x.cares(0, 9), 4);
        due("cares(0, 9) again", x.cares(0, 9), 9);
        due("cares(0, 0)", x.cares(0, 0), 9);
        due("cares(0, 0) again", x.cares(0, 0), 0);
    }

    // ---- promise 9

    static void promise09_noSuchThing() {
        told("OWNER becomes one of PEOPLE, or nobody (9): the old (-4). -1.");
        ToldWhereItWas x = Boundary.men(1);
        for (int t : Boundary.outside(0, 4)) {
            due("gives(" + t + ", 0)", x.gives(t, 0), -1);
            due("gives(" + t + ", 9)", x.gives(t, 9), -1);
        }
        due("gives(0, 0)", x.gives(0, 0), -4);
        due("gives(4, 0)", x.gives(4, 0), -4);
        due("count(2)", x.count(2), 1 + 16);
    }

    static void promise09_noSuchOne() {
        told("OWNER becomes one of PEOPLE, or nobody (9): the old (-4). -1.");
        due("gives(0, 0) of nobody", new ToldWhereItWas().gives(0, 0), -1);
        ToldWhereItWas x = townOf("p009;p009;o00;");
        for (int p : Boundary.outside(0, 1)) {
            due("gives(0, " + p + ")", x.gives(0, p), -1);
        }
        due("gives(0, 8)", x.gives(0, 8), -1);
        due("gives(0, 10)", x.gives(0, 10), -1);
        due("thing(0, 2)", x.thing(0, 2), 0);
        ToldWhereItWas y = Boundary.men(7);
        due("gives(0, 6) of seven", y.gives(0, 6), -4);
        due("gives(0, 7) of seven", y.gives(0, 7), -1);
    }

    static void promise09_nobody() {
        told("or nobody (9): the old (-4)");
        ToldWhereItWas x = Boundary.men(1);
        due("gives(0, 9) of nobody's", x.gives(0, 9), -4);
        due("gives(0, 0)", x.gives(0, 0), -4);
        due("gives(0, 0) again", x.gives(0, 0), 0);
        due("gives(0, 9)", x.gives(0, 9), 0);
        due("thing(0, 2)", x.thing(0, 2), -4);
        due("gives(0, 9) where nobody is", new ToldWhereItWas().gives(0, 9), -4);
    }

    // ---- promise 10

    static void promise10_noSuchThing() {
        told("TRUE (0 .. 4095) becomes other: the old. -1.");
        ToldWhereItWas x = new ToldWhereItWas();
        for (int t : Boundary.outside(0, 4)) {
            due("past(" + t + ", 0)", x.past(t, 0), -1);
        }
        due("past(0, 1)", x.past(0, 1), 4095);
        due("past(4, 2)", x.past(4, 2), 4095);
    }

    static void promise10_outOfRange() {
        told("TRUE (0 .. 4095) becomes other: the old. -1.");
        ToldWhereItWas x = new ToldWhereItWas();
        due("past(0, 0)", x.past(0, 0), 4095);
        due("past(0, 4095)", x.past(0, 4095), 0);
        for (int facts : Boundary.outside(0, 4095)) {
            due("past(0, " + facts + ")", x.past(0, facts), -1);
        }
        due("thing(0, 0)", x.thing(0, 0), 4095);
    }

    // ---- promise 11: what is refused

    static void promise11_outOfRange() {
        told("n DAYS (1 .. 60): how many THINGS are OWNED.");
        ToldWhereItWas x = townOf("p000;");
        for (int n : Boundary.outside(1, 60)) {
            due("days(" + n + ")", x.days(n), -1);
        }
        due("days(-1)", x.days(-1), -1);
        due("count(1)", x.count(1), 0);
        due("days(1)", x.days(1), 1);
        due("days(60)", x.days(60), 1);
        due("count(1)", x.count(1), 61);
    }

    static void promise11_dayAbove999() {
        told("days() is refused (-3; in THE TEXT kind 2), if DAY and n together are above 999; none of them goes then");
        ToldWhereItWas x = Boundary.townOnDay(940, "p000;");
        String before = Boundary.picture(x);
        due("days(60) to DAY 1000", x.days(60), -3);
        Boundary.unchanged(x, before);
        due("days(59) to DAY 999", x.days(59), 1);
        due("count(1)", x.count(1), 999);
        due("days(1) to DAY 1000", x.days(1), -3);
    }

    static void promise11_outOfRangeGoesBeforeDayAbove999() {
        told("-1, -3 DAY above 999.");
        ToldWhereItWas x = Boundary.townOnDay(999, "p000;");
        for (int n : Boundary.outside(1, 60)) {
            due("days(" + n + ")", x.days(n), -1);
        }
        due("days(60)", x.days(60), -3);
    }

    static void promise11_noneAndAllAreOwned() {
        told("n DAYS (1 .. 60): how many THINGS are OWNED.");
        due("days(1) of nobody", new ToldWhereItWas().days(1), 0);
        due("days(1) of all", townOf("p000;p001;p002;p003;p004;").days(1), 5);
        due("days(1) of what is given", townOf("p009;o40;").days(1), 1);
    }

    // ---- promise 11: how one LEARNS

    /** What one KNOWS of THING 1, for which he CARES, when as many DAYS have gone by. */
    private static int learned(int kind, int figure, int truth, int days) {
        ToldWhereItWas x = townOf("p" + kind + figure + "1;");
        x.past(1, truth);
        x.days(days);
        return x.story(0, 1, 0);
    }

    static void promise11_noneLeft() {
        told("LEARNS of it, one FACT after the other (none left: no more)");
        due("a MAN, two FACTS, 2 DAYS", learned(MAN, 0, 0x801, 2), 0x801);
        due("a MAN, two FACTS, 3 DAYS", learned(MAN, 0, 0x801, 3), 0x801);
        due("a MAN, no FACT", learned(MAN, 0, 0, 3), 0);
        due("a BURGLAR, one FACT", learned(BURGLAR, 0, 0x10, 1), 0x10);
        due("a BURGLAR, four FACTS, 2 DAYS", learned(BURGLAR, 0, 0x1e, 2), 0x1e);
        due("a LIAR, 6 DAYS", learned(LIAR, 0, 0, 6), 4095);
        due("a LIAR, 7 DAYS", learned(LIAR, 0, 0, 7), 4095);
        due("a PEDLAR, 4 DAYS", learned(PEDLAR, 9, 0, 4), 4095);
    }

    static void promise11_leastFirst() {
        told("TRUE ones alone does he LEARN, least first");
        for (int kind : new int[] {MAN, SERVANT, BURGLAR}) {
            int facts = kind == MAN ? 0x20 : kind == SERVANT ? 0x60 : 0x460;
            due("on a DAY, kind " + kind, learned(kind, 9, 0xc60, 1), facts);
        }
        due("on 2 DAYS, an OLD one", learned(OLD, 9, 0xc60, 2), 0x20);
        due("on 2 DAYS, a DOWAGER", learned(DOWAGER, 9, 0xc60, 2), 0x20);
    }

    static void promise11_liarsLearnFalseOnes() {
        told("a LIAR (a PEDLAR, too) the least he does not KNOW, TRUE or FALSE");
        due("a LIAR", learned(LIAR, 9, 0xc60, 1), 3);
        due("a PEDLAR", learned(PEDLAR, 9, 0xc60, 1), 15);
        ToldWhereItWas x = townOf("p209;l0001;l0002;c00;");
        x.past(0, 2);
        x.days(1);
        due("a LIAR who KNOWS 1 and 2", x.story(0, 0, 0), 15);
    }

    static void promise11_oldOnesByDays() {
        told("OLD 1, if 2 divides d, else 0");
        for (int kind : new int[] {OLD, DOWAGER}) {
            due("DAY 1, kind " + kind, learned(kind, 0, 4095, 1), 0);
            due("DAY 2, kind " + kind, learned(kind, 0, 4095, 2), 1);
            due("DAY 3, kind " + kind, learned(kind, 0, 4095, 3), 1);
            due("DAY 4, kind " + kind, learned(kind, 0, 4095, 4), 3);
        }
        due("a SILENT one", learned(SILENT, 9, 4095, 4), 0);
    }

    static void promise11_servantsByOwners() {
        told("SERVANT 1, 2 if he is not the OWNER of what he CARES for");
        due("DAY 1: he is not yet the OWNER", learned(SERVANT, 0, 4095, 1), 3);
        due("DAY 2: he is", learned(SERVANT, 0, 4095, 2), 7);
        due("his from DAY 0 on", townAfter("p300;o00;", 1).story(0, 0, 0), 1);
    }

    private static ToldWhereItWas townAfter(String text, int days) {
        ToldWhereItWas x = townOf(text);
        x.days(days);
        return x;
    }

    static void promise11_pedlarsByFigure() {
        told("PEDLAR FIGURE by 2, cut");
        due("FIGURE 1", learned(PEDLAR, 1, 4095, 1), 0);
        due("FIGURE 2", learned(PEDLAR, 2, 4095, 1), 1);
        due("FIGURE 3", learned(PEDLAR, 3, 4095, 1), 1);
        due("FIGURE 9", learned(PEDLAR, 9, 4095, 1), 15);
    }

    static void promise11_whoCaresForNothingLearnsNothing() {
        told("PEOPLE by numbers: each, if he CARES for a THING, LEARNS of it");
        for (int kind = 0; kind < 8; kind++) {
            due("kind " + kind, townAfter("p" + kind + "99;", 4).count(4), 0);
        }
    }

    static void promise11_ofOneThingAlone() {
        told("PEOPLE by numbers: each, if he CARES for a THING, LEARNS of it");
        ToldWhereItWas x = townAfter("p004;p000;", 3);
        due("story(0, 4, 0)", x.story(0, 4, 0), 7);
        due("story(1, 0, 0)", x.story(1, 0, 0), 7);
        due("count(4)", x.count(4), 6);
    }

    static void promise11_theLastOfSevenLearns() {
        told("PEOPLE 0 .. 6 as they come (7 at most)");
        ToldWhereItWas x = Boundary.men(7);
        x.cares(6, 4);
        x.days(1);
        due("story(6, 4, 0)", x.story(6, 4, 0), 1);
        due("thing(4, 2)", x.thing(4, 2), 6);
    }

    // ---- promise 11: how one FORGETS

    private static ToldWhereItWas forgetful(int kind, int day) {
        return Boundary.townOnDay(day, "p" + kind + "99;l0000;l0005;l0011;l0400;l0401;");
    }

    static void promise11_onDaysThat7Divides() {
        told("FORGETS: an OLD one and all under OLD, on DAYS that 7 divides");
        for (int kind : new int[] {OLD, DOWAGER, SILENT}) {
            ToldWhereItWas x = forgetful(kind, 5);
            x.days(1);
            due("DAY 6, kind " + kind, x.story(0, 0, 0), 1 + 32 + 2048);
            x.days(1);
            due("DAY 7, kind " + kind, x.story(0, 0, 0), 1 + 32);
            x.days(6);
            due("DAY 13, kind " + kind, x.story(0, 0, 0), 1 + 32);
            x.days(1);
            due("DAY 14, kind " + kind, x.story(0, 0, 0), 1);
            x.days(7);
            due("DAY 21, kind " + kind, x.story(0, 0, 0), 0);
            x.days(7);
            due("DAY 28, kind " + kind, x.story(0, 0, 0), 0);
        }
    }

    static void promise11_ofEachThing() {
        told("of each THING the greatest FACT he KNOWS");
        ToldWhereItWas x = forgetful(OLD, 6);
        x.days(1);
        due("story(0, 4, 0)", x.story(0, 4, 0), 1);
    }

    static void promise11_theGreatestOfTwo() {
        told("of each THING the greatest FACT he KNOWS");
        for (int greatest = 1; greatest < 12; greatest++) {
            for (int other = 0; other < greatest; other++) {
                ToldWhereItWas x = Boundary.townOnDay(6, "p109;");
                x.learns(0, 2, other);
                x.learns(0, 2, greatest);
                x.days(1);
                due("story(0, 2, 0) of " + other + " and " + greatest, x.story(0, 2, 0), 1 << other);
            }
        }
    }

    static void promise11_whetherItIsTrueOrNot() {
        told("of each THING the greatest FACT he KNOWS");
        ToldWhereItWas x = forgetful(OLD, 6);
        x.past(0, 63);
        x.days(1);
        due("story(0, 0, 0)", x.story(0, 0, 0), 1 + 32);
    }

    static void promise11_othersForgetNothing() {
        told("of each THING the greatest FACT he KNOWS; others nothing");
        for (int kind : new int[] {MAN, LIAR, SERVANT, PEDLAR, BURGLAR}) {
            ToldWhereItWas x = forgetful(kind, 6);
            x.days(1);
            due("story(0, 0, 0) of kind " + kind, x.story(0, 0, 0), 1 + 32 + 2048);
        }
    }

    static void promise11_heLearnsThenForgets() {
        told("then he FORGETS (whatever he CARES for)");
        ToldWhereItWas x = Boundary.townOnDay(13, "p100;l0000;l0001;");
        x.days(1);
        due("story(0, 0, 0) on DAY 14: 2 is LEARNED and forgotten", x.story(0, 0, 0), 3);
        ToldWhereItWas y = Boundary.townOnDay(13, "p101;l0000;l0001;");
        y.days(1);
        due("story(0, 0, 0), he CARES for another", y.story(0, 0, 0), 1);
        due("story(0, 1, 0), LEARNED and forgotten", y.story(0, 1, 0), 0);
    }

    // ---- promise 11: who becomes the OWNER

    static void promise11_asLongIsNotLonger() {
        told("is its OWNER, if that STORY is longer than its OWNER's (nobody's: 0)");
        ToldWhereItWas x = townAfter("p009;p009;l0000;l1001;o01;", 1);
        due("thing(0, 2), as long", x.thing(0, 2), 1);
        x.learns(0, 0, 2);
        x.days(1);
        due("thing(0, 2), longer by 1", x.thing(0, 2), 0);
    }

    static void promise11_nobodysIs0() {
        told("if that STORY is longer than its OWNER's (nobody's: 0)");
        ToldWhereItWas x = townAfter("p009;p009;", 1);
        due("thing(0, 2), STORIES of 0", x.thing(0, 2), -4);
        x.learns(1, 0, 0);
        x.days(1);
        due("thing(0, 2), a STORY of 1", x.thing(0, 2), 1);
    }

    static void promise11_anOwnersStoryOf0() {
        told("if that STORY is longer than its OWNER's (nobody's: 0)");
        ToldWhereItWas x = townAfter("p009;p009;o01;", 1);
        due("thing(0, 2), STORIES of 0", x.thing(0, 2), 1);
        x.learns(0, 0, 0);
        x.days(1);
        due("thing(0, 2), 1 to 0", x.thing(0, 2), 0);
    }

    static void promise11_ofSeveralTheLeast() {
        told("the one whose STORY for it is greatest, of several the least");
        ToldWhereItWas x = townAfter("p009;p009;p009;p009;o03;l0000;l1000;l1001;l2000;l2002;", 1);
        due("thing(0, 2)", x.thing(0, 2), 1);
    }

    static void promise11_theGreatestGoesBeforeTheLeast() {
        told("the one whose STORY for it is greatest, of several the least");
        ToldWhereItWas x = townAfter("p009;p009;p009;o00;l0000;l1000;l1001;l2000;l2001;l2002;", 1);
        due("thing(0, 2)", x.thing(0, 2), 2);
    }

    static void promise11_theOwnerWithTheLongest() {
        told("of PEOPLE (not its OWNER) the one whose STORY for it is greatest");
        ToldWhereItWas x = townAfter("p009;p009;o01;l0000;l1000;l1001;", 1);
        due("thing(0, 2)", x.thing(0, 2), 1);
    }

    static void promise11_byFalseOnesToo() {
        told("STORY of one for a THING (by TRUE FACTS he KNOWS, and others he KNOWS, FALSE)");
        String text = "t000011;p009;l0000;l0001;l0002;o00;p209;l1000;l1001;";
        due("thing(0, 2), a LIAR by one FALSE one", townAfter(text, 1).thing(0, 2), 0);
        due("thing(0, 2), a LIAR by two FALSE ones", townAfter(text + "l1002;", 1).thing(0, 2), 1);
    }

    static void promise11_theFirstAndTheLastThing() {
        told("then THINGS by numbers");
        ToldWhereItWas x = townAfter("p009;l0000;l0411;", 1);
        due("count(2)", x.count(2), 1 + 16);
    }

    static void promise11_allLearnBeforeAnythingGoes() {
        told("PEOPLE by numbers: each, if he CARES for a THING, LEARNS of it");
        due("of two who LEARN alike the least", townAfter("p000;p000;", 1).thing(0, 2), 0);
        due("of 1 and 3 FACTS the most", townAfter("p000;p600;", 1).thing(0, 2), 1);
    }
}
