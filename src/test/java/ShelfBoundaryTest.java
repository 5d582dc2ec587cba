/** The boundary cases of promises 34 to 40: shelves. */
public final class ShelfBoundaryTest {
    private static final int GREATEST = Boundary.GREATEST_INT;
    private static final int LEAST = Boundary.LEAST_INT;

    public static void main(String[] args) {
        Boundary.main(ShelfBoundaryTest.class, 34, 40);
    }

    private static void told(String words) {
        Boundary.told(words);
    }

    private static void due(String call, long got, long want) {
        Boundary.due(call, got, want);
    }

    private static void rowOf(ToldWhereItWas x, int d, int sort, int... elements) {
        Boundary.rowOf(x, d, sort, elements);
    }

    private static int thrown(ToldWhereItWas x, int d, int i) {
        return Boundary.thrown(x, d, i);
    }

    /** A MAN on shelf 1, a ROW of two shorts on shelf 2, nothing elsewhere. */
    private static ToldWhereItWas oneAndARow() {
        ToldWhereItWas x = new ToldWhereItWas();
        x.keep(1, 1, 0, 5);
        rowOf(x, 2, 1, 7, 8);
        return x;
    }

    // ---- promise 34

    static void promise34_noSuchShelf() {
        told("1 a KIND of one of KIND k with a FIGURE: 0. -1.");
        ToldWhereItWas x = new ToldWhereItWas();
        for (int d : Boundary.outside(0, 7)) {
            due("keep(" + d + ", 0, 0, 0)", x.keep(d, 0, 0, 0), -1);
            due("keep(" + d + ", 1, 0, 0)", x.keep(d, 1, 0, 0), -1);
        }
        due("keep(0, 1, 0, 0)", x.keep(0, 1, 0, 0), 0);
        due("keep(7, 1, 0, 0)", x.keep(7, 1, 0, 0), 0);
        due("cost(0)", x.cost(0), 2);
        due("cost(7)", x.cost(7), 2);
        due("cost(1)", x.cost(1), -11);
    }

    static void promise34_noSuchWhat() {
        told("1 a KIND of one of KIND k with a FIGURE: 0. -1.");
        ToldWhereItWas x = oneAndARow();
        String before = Boundary.picture(x);
        for (int what : Boundary.outside(0, 1)) {
            due("keep(1, " + what + ", 0, 0)", x.keep(1, what, 0, 0), -1);
        }
        Boundary.unchanged(x, before);
    }

    static void promise34_noSuchKind() {
        told("1 a KIND of one of KIND k with a FIGURE: 0. -1.");
        ToldWhereItWas x = oneAndARow();
        String before = Boundary.picture(x);
        for (int kind : Boundary.outside(0, 7)) {
            due("keep(1, 1, " + kind + ", 0)", x.keep(1, 1, kind, 0), -1);
            due("keep(2, 1, " + kind + ", 0)", x.keep(2, 1, kind, 0), -1);
        }
        Boundary.unchanged(x, before);
        due("keep(1, 1, 7, 0)", x.keep(1, 1, 7, 0), 0);
        due("cost(1) of a SILENT one", x.cost(1), 1);
        due("keep(1, 1, 0, 0)", x.keep(1, 1, 0, 0), 0);
        due("cost(1) of a MAN", x.cost(1), 2);
    }

    static void promise34_noSuchFigure() {
        told("each with a FIGURE (0 .. 9)");
        ToldWhereItWas x = oneAndARow();
        String before = Boundary.picture(x);
        for (int figure : Boundary.outside(0, 9)) {
            due("keep(1, 1, 0, " + figure + ")", x.keep(1, 1, 0, figure), -1);
            due("keep(2, 1, 0, " + figure + ")", x.keep(2, 1, 0, figure), -1);
        }
        Boundary.unchanged(x, before);
        due("keep(1, 1, 2, 9)", x.keep(1, 1, 2, 9), 0);
        due("cost(1)", x.cost(1), 11);
        due("keep(1, 1, 2, 0)", x.keep(1, 1, 2, 0), 0);
        due("cost(1)", x.cost(1), 2);
    }

    static void promise34_nothing() {
        told("what = 0 nothing (the others do not matter)");
        ToldWhereItWas x = oneAndARow();
        due("keep(1, 0, 8, 10)", x.keep(1, 0, 8, 10), 0);
        due("cost(1)", x.cost(1), -11);
        due("keep(2, 0, -1, -1)", x.keep(2, 0, -1, -1), 0);
        due("put(2, 0, 0)", x.put(2, 0, 0), -11);
        due("keep(3, 0, LEAST, GREATEST)", x.keep(3, 0, LEAST, GREATEST), 0);
        due("cost(3)", x.cost(3), -11);
    }

    static void promise34_inPlaceOfWhatWasThere() {
        told("SHELVES 0 .. 7 each hold nothing (at first), a KIND of one, a ROW.");
        ToldWhereItWas x = oneAndARow();
        due("keep(2, 1, 3, 0), where a ROW was", x.keep(2, 1, 3, 0), 0);
        due("cost(2)", x.cost(2), 3);
        due("put(2, 0, 0)", x.put(2, 0, 0), -12);
        due("row(1, 0, 1), where one was", x.row(1, 0, 1), 0);
        due("cost(1)", x.cost(1), -12);
        due("put(1, 0, 0)", x.put(1, 0, 0), 0);
    }

    // ---- promise 35

    static void promise35_noSuchShelf() {
        told("SHELF d gets a ROW of a SORT: 0. -1 (n above 100); -14.");
        ToldWhereItWas x = new ToldWhereItWas();
        for (int d : Boundary.outside(0, 7)) {
            due("row(" + d + ", 0, 1)", x.row(d, 0, 1), -1);
        }
        due("row(0, 0, 1)", x.row(0, 0, 1), 0);
        due("row(7, 0, 1)", x.row(7, 0, 1), 0);
        due("put(0, 0, 0)", x.put(0, 0, 0), 0);
        due("put(7, 0, 0)", x.put(7, 0, 0), 0);
        due("put(6, 0, 0)", x.put(6, 0, 0), -11);
    }

    static void promise35_noSuchSort() {
        told("A ROW has a SORT (0 bytes, 1 shorts, 2 ints)");
        ToldWhereItWas x = oneAndARow();
        String before = Boundary.picture(x);
        for (int sort : Boundary.outside(0, 2)) {
            due("row(2, " + sort + ", 1)", x.row(2, sort, 1), -1);
        }
        Boundary.unchanged(x, before);
        due("row(2, 2, 1)", x.row(2, 2, 1), 0);
    }

    static void promise35_sizes() {
        told("0 .. 100 elements, 0 at first");
        ToldWhereItWas x = oneAndARow();
        String before = Boundary.picture(x);
        due("row(2, 0, 101)", x.row(2, 0, 101), -1);
        due("row(2, 0, GREATEST)", x.row(2, 0, GREATEST), -1);
        due("row(2, 0, -1)", x.row(2, 0, -1), -14);
        due("row(2, 0, LEAST)", x.row(2, 0, LEAST), -14);
        Boundary.unchanged(x, before);
        due("row(2, 0, 0)", x.row(2, 0, 0), 0);
        due("put(2, 0, 1), no place at all", x.put(2, 0, 1), -13);
        due("row(2, 0, 100)", x.row(2, 0, 100), 0);
        due("put(2, 99, 1), the last place", x.put(2, 99, 1), 0);
        due("put(2, 100, 1), one behind it", x.put(2, 100, 1), -13);
    }

    static void promise35_whichRefusalGoesFirst() {
        told("-1 (n above 100); -14.");
        ToldWhereItWas x = new ToldWhereItWas();
        due("row(8, 0, -1): no such SHELF, a size below 0", x.row(8, 0, -1), -1);
        due("row(-1, 0, -1): no such SHELF, a size below 0", x.row(-1, 0, -1), -1);
        due("row(0, 3, -1): no such SORT, a size below 0", x.row(0, 3, -1), -1);
        due("row(0, -1, -1): no such SORT, a size below 0", x.row(0, -1, -1), -1);
        due("row(0, 0, -1)", x.row(0, 0, -1), -14);
        due("put(0, 0, 0)", x.put(0, 0, 0), -11);
    }

    static void promise35_allAre0AtFirst() {
        told("0 .. 100 elements, 0 at first; what is put in keeps its lowest bits");
        ToldWhereItWas x = new ToldWhereItWas();
        x.row(0, 2, 100);
        for (int i = 0; i < 100; i++) {
            x.put(0, i, -1);
        }
        x.row(0, 2, 100);
        for (int i = 0; i < 100; i++) {
            due("element(0, " + i + ")", x.element(0, i), 0);
        }
    }

    static void promise35_aShorterOneHasNoPlacesMore() {
        told("SHELF d gets a ROW of a SORT: 0.");
        ToldWhereItWas x = oneAndARow();
        x.row(2, 1, 1);
        due("element(2, 1)", thrown(x, 2, 1), 2);
        due("element(2, 0)", x.element(2, 0), 0);
    }

    // ---- promise 36

    static void promise36_noSuchShelf() {
        told("Element i of the ROW becomes v: 0. -1, -11, -12, -13.");
        ToldWhereItWas x = new ToldWhereItWas();
        for (int d : Boundary.outside(0, 7)) {
            due("put(" + d + ", 0, 0)", x.put(d, 0, 0), -1);
        }
    }

    static void promise36_nothingThereOrOne() {
        told("Element i of the ROW becomes v: 0. -1, -11, -12, -13.");
        ToldWhereItWas x = oneAndARow();
        due("put(0, 0, 0)", x.put(0, 0, 0), -11);
        due("put(1, 0, 0)", x.put(1, 0, 0), -12);
    }

    static void promise36_noSuchPlace() {
        told("-13 a place that isn't there (a number or a size that isn't as told, too)");
        ToldWhereItWas x = oneAndARow();
        String before = Boundary.picture(x);
        for (int i : Boundary.outside(0, 1)) {
            due("put(2, " + i + ", 9)", x.put(2, i, 9), -13);
        }
        Boundary.unchanged(x, before);
        due("put(2, 0, 1)", x.put(2, 0, 1), 0);
        due("put(2, 1, 2)", x.put(2, 1, 2), 0);
        due("element(2, 0)", x.element(2, 0), 1);
        due("element(2, 1)", x.element(2, 1), 2);
    }

    static void promise36_whichRefusalGoesFirst() {
        told("-1, -11, -12, -13.");
        ToldWhereItWas x = oneAndARow();
        due("put(8, -1, 0): no such SHELF, no such place", x.put(8, -1, 0), -1);
        due("put(0, -1, 0): nothing there, no such place", x.put(0, -1, 0), -11);
        due("put(1, 100, 0): one there, no such place", x.put(1, 100, 0), -12);
    }

    private static void dueKept(int sort, int v, long kept) {
        ToldWhereItWas x = new ToldWhereItWas();
        x.row(0, sort, 1);
        due("put(0, 0, " + v + ")", x.put(0, 0, v), 0);
        due("element(0, 0) of " + v + ", sort " + sort, x.element(0, 0), kept);
    }

    static void promise36_lowestBitsOfBytes() {
        told("what is put in keeps its lowest bits");
        dueKept(0, 127, 127);
        dueKept(0, 128, -128);
        dueKept(0, -128, -128);
        dueKept(0, -129, 127);
        dueKept(0, 255, -1);
        dueKept(0, 256, 0);
        dueKept(0, GREATEST, -1);
        dueKept(0, LEAST, 0);
    }

    static void promise36_lowestBitsOfShorts() {
        told("what is put in keeps its lowest bits");
        dueKept(1, 128, 128);
        dueKept(1, 32767, 32767);
        dueKept(1, 32768, -32768);
        dueKept(1, -32768, -32768);
        dueKept(1, -32769, 32767);
        dueKept(1, 65535, -1);
        dueKept(1, 65536, 0);
        dueKept(1, GREATEST, -1);
        dueKept(1, LEAST, 0);
    }

    static void promise36_lowestBitsOfInts() {
        told("what is put in keeps its lowest bits");
        dueKept(2, 32768, 32768);
        dueKept(2, -32769, -32769);
        dueKept(2, GREATEST, GREATEST);
        dueKept(2, LEAST, LEAST);
    }

    // ---- promise 37: 1 is IllegalArgumentException, 2 IllegalStateException

    static void promise37_noSuchShelf() {
        told("IllegalArgumentException: no such SHELF; IllegalStateException: no ROW, no such place.");
        ToldWhereItWas x = new ToldWhereItWas();
        for (int d : Boundary.outside(0, 7)) {
            due("element(" + d + ", 0)", thrown(x, d, 0), 1);
        }
        rowOf(x, 0, 0, 1);
        rowOf(x, 7, 0, 2);
        due("element(0, 0)", x.element(0, 0), 1);
        due("element(7, 0)", x.element(7, 0), 2);
    }

    static void promise37_noRow() {
        told("IllegalArgumentException: no such SHELF; IllegalStateException: no ROW, no such place.");
        ToldWhereItWas x = oneAndARow();
        due("element(0, 0), nothing there", thrown(x, 0, 0), 2);
        due("element(1, 0), one there", thrown(x, 1, 0), 2);
        x.keep(2, 0, 0, 0);
        due("element(2, 0), nothing there any more", thrown(x, 2, 0), 2);
    }

    static void promise37_noSuchPlace() {
        told("IllegalArgumentException: no such SHELF; IllegalStateException: no ROW, no such place.");
        ToldWhereItWas x = oneAndARow();
        for (int i : Boundary.outside(0, 1)) {
            due("element(2, " + i + ")", thrown(x, 2, i), 2);
        }
        due("element(2, 0)", x.element(2, 0), 7);
        due("element(2, 1)", x.element(2, 1), 8);
        x.row(2, 0, 0);
        due("element(2, 0) of an empty ROW", thrown(x, 2, 0), 2);
        x.row(2, 0, 100);
        due("element(2, 99)", thrown(x, 2, 99), 0);
        due("element(2, 100)", thrown(x, 2, 100), 2);
    }

    static void promise37_whichExceptionGoesFirst() {
        told("IllegalArgumentException: no such SHELF; IllegalStateException: no ROW, no such place.");
        ToldWhereItWas x = new ToldWhereItWas();
        due("element(8, -1): no such SHELF, no such place", thrown(x, 8, -1), 1);
        due("element(-1, 100): no such SHELF, no such place", thrown(x, -1, 100), 1);
    }

    static void promise37_nothingChanges() {
        told("Element i of the ROW.");
        ToldWhereItWas x = oneAndARow();
        String before = Boundary.picture(x);
        thrown(x, 2, 0);
        thrown(x, 2, 2);
        thrown(x, 8, 0);
        thrown(x, 1, 0);
        Boundary.unchanged(x, before);
    }

    // ---- promise 38

    /** ROWS of five and of three shorts on shelves 0 and 1, of two bytes on shelf 2, one on shelf 3, nothing on 4. */
    private static ToldWhereItWas rows() {
        ToldWhereItWas x = new ToldWhereItWas();
        rowOf(x, 0, 1, 1, 2, 3, 4, 5);
        rowOf(x, 1, 1, 6, 7, 8);
        rowOf(x, 2, 0, 9, 10);
        x.keep(3, 1, 0, 0);
        return x;
    }

    private static void dueRow(ToldWhereItWas x, int d, int... elements) {
        for (int i = 0; i < elements.length; i++) {
            due("element(" + d + ", " + i + ")", x.element(d, i), elements[i]);
        }
        due("element(" + d + ", " + elements.length + ")", thrown(x, d, elements.length), 2);
    }

    static void promise38_noSuchShelf() {
        told("-1, -11 (either), -12 (no ROWS of one SORT), -13.");
        ToldWhereItWas x = rows();
        for (int d : Boundary.outside(0, 7)) {
            due("copy(" + d + ", 0, 0, 0, 1)", x.copy(d, 0, 0, 0, 1), -1);
            due("copy(0, 0, " + d + ", 0, 1)", x.copy(0, 0, d, 0, 1), -1);
        }
        rowOf(x, 7, 1, 70);
        due("copy(7, 0, 0, 0, 1)", x.copy(7, 0, 0, 0, 1), 1);
        due("copy(0, 1, 7, 0, 1)", x.copy(0, 1, 7, 0, 1), 1);
        dueRow(x, 0, 70, 2, 3, 4, 5);
        dueRow(x, 7, 2);
    }

    static void promise38_nothingThere() {
        told("-1, -11 (either), -12 (no ROWS of one SORT), -13.");
        ToldWhereItWas x = rows();
        due("copy(4, 0, 0, 0, 1)", x.copy(4, 0, 0, 0, 1), -11);
        due("copy(0, 0, 4, 0, 1)", x.copy(0, 0, 4, 0, 1), -11);
        due("copy(4, 0, 5, 0, 1)", x.copy(4, 0, 5, 0, 1), -11);
    }

    static void promise38_noRowsOfOneSort() {
        told("-1, -11 (either), -12 (no ROWS of one SORT), -13.");
        ToldWhereItWas x = rows();
        due("copy(3, 0, 0, 0, 1), from one", x.copy(3, 0, 0, 0, 1), -12);
        due("copy(0, 0, 3, 0, 1), to one", x.copy(0, 0, 3, 0, 1), -12);
        due("copy(3, 0, 3, 0, 0), one to himself", x.copy(3, 0, 3, 0, 0), -12);
        due("copy(0, 0, 2, 0, 1), shorts to bytes", x.copy(0, 0, 2, 0, 1), -12);
        due("copy(2, 0, 0, 0, 1), bytes to shorts", x.copy(2, 0, 0, 0, 1), -12);
        due("copy(2, 0, 3, 0, 0), bytes to one", x.copy(2, 0, 3, 0, 0), -12);
        due("copy(3, 0, 2, 0, 0), one to bytes", x.copy(3, 0, 2, 0, 0), -12);
    }

    static void promise38_noSuchPlace() {
        told("-13 a place that isn't there (a number or a size that isn't as told, too)");
        ToldWhereItWas x = rows();
        String before = Boundary.picture(x);
        due("copy(0, -1, 1, 0, 1)", x.copy(0, -1, 1, 0, 1), -13);
        due("copy(0, 0, 1, -1, 1)", x.copy(0, 0, 1, -1, 1), -13);
        due("copy(0, 5, 1, 0, 1)", x.copy(0, 5, 1, 0, 1), -13);
        due("copy(0, 0, 1, 3, 1)", x.copy(0, 0, 1, 3, 1), -13);
        due("copy(0, 4, 1, 0, 2)", x.copy(0, 4, 1, 0, 2), -13);
        due("copy(0, 0, 1, 2, 2)", x.copy(0, 0, 1, 2, 2), -13);
        due("copy(0, 0, 1, 0, 4)", x.copy(0, 0, 1, 0, 4), -13);
        due("copy(1, 0, 0, 0, 4)", x.copy(1, 0, 0, 0, 4), -13);
        Boundary.unchanged(x, before);
    }

    static void promise38_sizesBelow0() {
        told("-13 a place that isn't there (a number or a size that isn't as told, too)");
        ToldWhereItWas x = rows();
        due("copy(0, 1, 1, 1, -1)", x.copy(0, 1, 1, 1, -1), -13);
        due("copy(0, 0, 1, 0, LEAST)", x.copy(0, 0, 1, 0, LEAST), -13);
    }

    static void promise38_sumsThatWouldWrapRound() {
        told("-13 a place that isn't there (a number or a size that isn't as told, too)");
        ToldWhereItWas x = rows();
        due("copy(0, 1, 1, 1, GREATEST)", x.copy(0, 1, 1, 1, GREATEST), -13);
        due("copy(0, GREATEST, 1, 0, 1)", x.copy(0, GREATEST, 1, 0, 1), -13);
        due("copy(0, 0, 1, GREATEST, 1)", x.copy(0, 0, 1, GREATEST, 1), -13);
        due("copy(0, GREATEST, 1, GREATEST, GREATEST)", x.copy(0, GREATEST, 1, GREATEST, GREATEST), -13);
        due("copy(0, LEAST, 1, LEAST, LEAST)", x.copy(0, LEAST, 1, LEAST, LEAST), -13);
    }

    static void promise38_whichRefusalGoesFirst() {
        told("-1, -11 (either), -12 (no ROWS of one SORT), -13.");
        ToldWhereItWas x = rows();
        due("copy(8, 0, 4, 0, 1): no such SHELF, nothing there", x.copy(8, 0, 4, 0, 1), -1);
        due("copy(4, 0, 8, 0, 1): nothing there, no such SHELF", x.copy(4, 0, 8, 0, 1), -1);
        due("copy(3, 0, 8, 0, 1): one there, no such SHELF", x.copy(3, 0, 8, 0, 1), -1);
        due("copy(0, 9, 8, 9, 9): no such place, no such SHELF", x.copy(0, 9, 8, 9, 9), -1);
        due("copy(3, 0, 4, 0, 1): one there, nothing there", x.copy(3, 0, 4, 0, 1), -11);
        due("copy(4, 0, 3, 0, 1): nothing there, one there", x.copy(4, 0, 3, 0, 1), -11);
        due("copy(4, 0, 0, -1, 1): nothing there, no such place", x.copy(4, 0, 0, -1, 1), -11);
        due("copy(0, 9, 2, 9, -1): another SORT, no such place", x.copy(0, 9, 2, 9, -1), -12);
        due("copy(3, -1, 0, 0, 1): one there, no such place", x.copy(3, -1, 0, 0, 1), -12);
    }

    static void promise38_noneAtAll() {
        told("n elements of the ROW in SHELF d from i on come to that in SHELF e from j on: n.");
        ToldWhereItWas x = rows();
        String before = Boundary.picture(x);
        due("copy(0, 0, 1, 0, 0)", x.copy(0, 0, 1, 0, 0), 0);
        due("copy(0, 5, 1, 3, 0), at the ends", x.copy(0, 5, 1, 3, 0), 0);
        x.row(5, 1, 0);
        due("copy(5, 0, 1, 3, 0), from an empty ROW", x.copy(5, 0, 1, 3, 0), 0);
        due("copy(0, 5, 5, 0, 0), to an empty ROW", x.copy(0, 5, 5, 0, 0), 0);
        x.keep(5, 0, 0, 0);
        Boundary.unchanged(x, before);
    }

    static void promise38_allOfThem() {
        told("n elements of the ROW in SHELF d from i on come to that in SHELF e from j on: n.");
        ToldWhereItWas x = rows();
        due("copy(0, 2, 1, 0, 3), to the end of both", x.copy(0, 2, 1, 0, 3), 3);
        dueRow(x, 1, 3, 4, 5);
        dueRow(x, 0, 1, 2, 3, 4, 5);
        due("copy(1, 0, 0, 2, 3)", x.copy(1, 0, 0, 2, 3), 3);
        dueRow(x, 0, 1, 2, 3, 4, 5);
        ToldWhereItWas y = new ToldWhereItWas();
        y.row(0, 2, 100);
        y.row(1, 2, 100);
        y.put(0, 0, 5);
        y.put(0, 99, 6);
        due("copy(0, 0, 1, 0, 100)", y.copy(0, 0, 1, 0, 100), 100);
        due("element(1, 0)", y.element(1, 0), 5);
        due("element(1, 99)", y.element(1, 99), 6);
        due("copy(0, 0, 1, 0, 101)", y.copy(0, 0, 1, 0, 101), -13);
    }

    static void promise38_ontoItself() {
        told("what is taken from a SHELF, stay there");
        ToldWhereItWas x = rows();
        due("copy(0, 0, 0, 1, 4)", x.copy(0, 0, 0, 1, 4), 4);
        dueRow(x, 0, 1, 1, 2, 3, 4);
        due("copy(0, 1, 0, 0, 4)", x.copy(0, 1, 0, 0, 4), 4);
        dueRow(x, 0, 1, 2, 3, 4, 4);
        due("copy(0, 0, 0, 0, 5)", x.copy(0, 0, 0, 0, 5), 5);
        dueRow(x, 0, 1, 2, 3, 4, 4);
        due("copy(0, 2, 0, 2, 4)", x.copy(0, 2, 0, 2, 4), -13);
    }

    // ---- promise 39

    static void promise39_noSuchShelf() {
        told("SILENT as an OLD one. -1, -11, -12 (a ROW).");
        ToldWhereItWas x = new ToldWhereItWas();
        for (int d : Boundary.outside(0, 7)) {
            due("cost(" + d + ")", x.cost(d), -1);
        }
    }

    static void promise39_nothingThereOrARow() {
        told("SILENT as an OLD one. -1, -11, -12 (a ROW).");
        ToldWhereItWas x = oneAndARow();
        due("cost(0)", x.cost(0), -11);
        for (int sort = 0; sort < 3; sort++) {
            x.row(0, sort, 0);
            due("cost(0) of sort " + sort, x.cost(0), -12);
        }
    }

    static void promise39_ofTheLeastAndTheGreatestFigure() {
        told("MAN 2; OLD 1; LIAR FIGURE more than a MAN; SERVANT 3; DOWAGER 6 more than an OLD one; PEDLAR twice a LIAR's; BURGLAR 0; SILENT as an OLD one.");
        int[] by0 = {2, 1, 2, 3, 7, 4, 0, 1};
        int[] by9 = {2, 1, 11, 3, 7, 22, 0, 1};
        ToldWhereItWas x = new ToldWhereItWas();
        for (int kind = 0; kind < 8; kind++) {
            x.keep(0, 1, kind, 0);
            due("cost(0) of kind " + kind + ", FIGURE 0", x.cost(0), by0[kind]);
            x.keep(0, 1, kind, 9);
            due("cost(0) of kind " + kind + ", FIGURE 9", x.cost(0), by9[kind]);
        }
    }

    // ---- promise 40

    static void promise40_noSuchShelf() {
        told("-1, -11, -12 (a ROW); -15");
        ToldWhereItWas x = new ToldWhereItWas();
        for (int d : Boundary.outside(0, 7)) {
            due("toss(" + d + ")", x.toss(d), -1);
        }
        x.keep(7, 1, 0, 3);
        due("toss(7)", x.toss(7), 3);
    }

    static void promise40_nothingThereOrARow() {
        told("-1, -11, -12 (a ROW); -15");
        ToldWhereItWas x = new ToldWhereItWas();
        due("toss(0)", x.toss(0), -11);
        for (int sort = 0; sort < 3; sort++) {
            x.row(0, sort, 0);
            due("toss(0) of sort " + sort, x.toss(0), -12);
        }
    }

    static void promise40_figure0() {
        told("-15: OLD ones, DOWAGERS, SILENT ones, and any with FIGURE 0, have none.");
        ToldWhereItWas x = new ToldWhereItWas();
        for (int kind = 0; kind < 8; kind++) {
            x.keep(0, 1, kind, 0);
            due("toss(0) of kind " + kind, x.toss(0), -15);
        }
    }

    static void promise40_oldOnesHaveNone() {
        told("-15: OLD ones, DOWAGERS, SILENT ones, and any with FIGURE 0, have none.");
        ToldWhereItWas x = new ToldWhereItWas();
        for (int kind : new int[] {Boundary.OLD, Boundary.DOWAGER, Boundary.SILENT}) {
            x.keep(0, 1, kind, 1);
            due("toss(0) of kind " + kind + ", FIGURE 1", x.toss(0), -15);
            x.keep(0, 1, kind, 9);
            due("toss(0) of kind " + kind + ", FIGURE 9", x.toss(0), -15);
        }
    }

    static void promise40_ofTheLeastAndTheGreatestFigure() {
        told("its FIGURE; of LIARS 100 more (of PEDLARS, too); of BURGLARS 200 and their FIGURE twice in place of that.");
        int[] kinds = {Boundary.MAN, Boundary.SERVANT, Boundary.LIAR, Boundary.PEDLAR, Boundary.BURGLAR};
        int[] by1 = {1, 1, 101, 101, 202};
        int[] by9 = {9, 9, 109, 109, 218};
        ToldWhereItWas x = new ToldWhereItWas();
        for (int i = 0; i < kinds.length; i++) {
            x.keep(0, 1, kinds[i], 1);
            due("toss(0) of kind " + kinds[i] + ", FIGURE 1", x.toss(0), by1[i]);
            x.keep(0, 1, kinds[i], 9);
            due("toss(0) of kind " + kinds[i] + ", FIGURE 9", x.toss(0), by9[i]);
        }
    }

    static void promise40_nothingChanges() {
        told("The FAILURE of the one on SHELF d is thrown, and caught");
        ToldWhereItWas x = oneAndARow();
        String before = Boundary.picture(x);
        due("toss(1)", x.toss(1), 5);
        due("toss(1) again", x.toss(1), 5);
        Boundary.unchanged(x, before);
    }
}
