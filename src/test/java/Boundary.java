import java.io.IOException;
import java.lang.reflect.InvocationTargetException;
import java.lang.reflect.Method;
import java.nio.charset.StandardCharsets;
import java.nio.file.Files;
import java.nio.file.Path;
import java.util.ArrayList;
import java.util.Comparator;
import java.util.List;

/**
 * What the tests of boundary cases share. Each of them is a method whose name begins with "promise" and the number of
 * its promise, and which tells first the words of the document that it stands for. These must stand in the document,
 * under that promise or in a part that every promise leans on.
 */
final class Boundary {
    static final int MAN = 0;
    static final int OLD = 1;
    static final int LIAR = 2;
    static final int SERVANT = 3;
    static final int DOWAGER = 4;
    static final int PEDLAR = 5;
    static final int BURGLAR = 6;
    static final int SILENT = 7;
    static final int LEAST_INT = Integer.MIN_VALUE;
    static final int GREATEST_INT = Integer.MAX_VALUE;
    static final long REFUSED_LONG = 1000000001L;

    private static final Path DOCUMENT = Path.of("../shared/DOC.md");
    private static final int PROMISES = 40;
    private static final String HEADING = "## Promise ";

    /** The words under each promise; at 0 those that all lean on. */
    private static final String[] DOCUMENT_PARTS = new String[PROMISES + 1];

    private static boolean hasDocument = false;
    private static String test = "";
    private static int promise = 0;
    private static String words = "";
    private static int wrong = 0;

    private Boundary() {
    }

    // ---- running the tests of a class

    /** Runs them and ends with exit code 1 if one failed, or if one of these promises has none. */
    static void main(Class<?> tests, int first, int last) {
        if (failures(tests, first, last) != 0) {
            System.exit(1);
        }
    }

    static int failures(Class<?> tests, int first, int last) {
        readDocument();
        wrong = 0;
        boolean[] tested = new boolean[PROMISES + 1];
        for (Method method : testsOf(tests)) {
            test = method.getName();
            promise = Integer.parseInt(test.substring(7, 9));
            words = "";
            tested[promise] = true;
            run(method);
        }
        for (int p = first; p <= last; p++) {
            if (!tested[p]) {
                fail("promise " + p + " has no test in " + tests.getName());
            }
        }
        return wrong;
    }

    private static List<Method> testsOf(Class<?> tests) {
        List<Method> found = new ArrayList<>();
        for (Method method : tests.getDeclaredMethods()) {
            if (method.getName().startsWith("promise")) {
                method.setAccessible(true);
                found.add(method);
            }
        }
        found.sort(Comparator.comparing(Method::getName));
        return found;
    }

    private static void run(Method method) {
        try {
            method.invoke(null);
        } catch (InvocationTargetException e) {
            fail(test + " threw " + e.getCause());
        } catch (IllegalAccessException e) {
            fail(test + " can't be run");
        }
        if (words.isEmpty()) {
            fail(test + " does not tell what it stands for");
        }
    }

    private static void fail(String what) {
        wrong++;
        System.out.println(what);
    }

    // ---- the document

    private static void readDocument() {
        String[] lines;
        try {
            lines = Files.readString(DOCUMENT, StandardCharsets.UTF_8).split("\n");
        } catch (IOException e) {
            hasDocument = false;
            System.out.println("what the tests stand for is not looked up: there is no " + DOCUMENT);
            return;
        }
        hasDocument = true;
        StringBuilder[] parts = new StringBuilder[PROMISES + 1];
        for (int i = 0; i <= PROMISES; i++) {
            parts[i] = new StringBuilder();
        }
        int part = 0;
        for (String line : lines) {
            if (line.startsWith(HEADING)) {
                part = Integer.parseInt(line.substring(HEADING.length(), line.indexOf(':')));
            } else if (line.startsWith("## ")) {
                part = 0;
            }
            parts[part].append(line).append(' ');
        }
        for (int i = 0; i <= PROMISES; i++) {
            DOCUMENT_PARTS[i] = plain(parts[i].toString());
        }
    }

    private static String plain(String text) {
        return text.replaceAll("\\s+", " ");
    }

    /** The words that the running test stands for. */
    static void told(String sentence) {
        words = sentence;
        String looked = plain(sentence);
        if (hasDocument && !DOCUMENT_PARTS[promise].contains(looked) && !DOCUMENT_PARTS[0].contains(looked)) {
            fail(test + " stands for words that the document does not tell: " + sentence);
        }
    }

    // ---- what is due

    static void due(String call, long got, long want) {
        if (got != want) {
            fail(test + " (" + words + "): " + call + " answered " + got + ", due is " + want);
        }
    }

    /** All that can be seen of a town and its shelves without changing anything. */
    static String picture(ToldWhereItWas x) {
        StringBuilder b = new StringBuilder();
        for (int what = 0; what < 5; what++) {
            b.append(x.count(what)).append(' ');
        }
        for (int t = 0; t < 5; t++) {
            b.append(x.thing(t, 0)).append(' ').append(x.thing(t, 1)).append(' ').append(x.thing(t, 2)).append(' ');
        }
        for (int p = 0; p < x.count(0); p++) {
            b.append(x.one(p, 0)).append(' ').append(x.one(p, 1)).append(' ').append(x.one(p, 2)).append(' ');
            for (int t = 0; t < 5; t++) {
                b.append(x.story(p, t, 0)).append(' ');
            }
        }
        for (int d = 0; d < 8; d++) {
            b.append(pictureOfShelf(x, d));
        }
        return b.toString();
    }

    private static String pictureOfShelf(ToldWhereItWas x, int d) {
        int cost = x.cost(d);
        if (cost != -12) {
            return "[" + cost + (cost < 0 ? "] " : " " + x.toss(d) + "] ");
        }
        StringBuilder b = new StringBuilder("[");
        for (int i = 0; thrown(x, d, i) == 0; i++) {
            b.append(x.element(d, i)).append(' ');
        }
        return b.append("] ").toString();
    }

    static void unchanged(ToldWhereItWas x, String before) {
        String after = picture(x);
        if (!after.equals(before)) {
            fail(test + " (" + words + "): from " + before + " it became " + after);
        }
    }

    /** What element throws: 0 nothing, 1 IllegalArgumentException, 2 IllegalStateException. */
    static int thrown(ToldWhereItWas x, int d, int i) {
        try {
            x.element(d, i);
            return 0;
        } catch (IllegalArgumentException e) {
            return 1;
        } catch (IllegalStateException e) {
            return 2;
        }
    }

    /** Numbers that lie outside a range: just below it, just above it, and the farthest ones. */
    static int[] outside(int from, int to) {
        return new int[] {from - 1, to + 1, LEAST_INT, GREATEST_INT};
    }

    // ---- towns and rows

    /** Puts a text on a shelf and answers what town says of it. */
    static int tell(ToldWhereItWas x, String text) {
        write(x, 7, text);
        return x.town(7);
    }

    static void write(ToldWhereItWas x, int d, String text) {
        x.row(d, 0, text.length());
        for (int i = 0; i < text.length(); i++) {
            x.put(d, i, text.charAt(i));
        }
    }

    static ToldWhereItWas townOf(String text) {
        ToldWhereItWas x = new ToldWhereItWas();
        int statements = tell(x, text);
        if (statements < 0) {
            fail(test + ": the text " + text + " is refused by " + statements);
        }
        tryOtherwise(x);
        return x;
    }

    /** Has a town tried by a text that is refused at its end or before: nothing of it may ever be seen. */
    private static void tryOtherwise(ToldWhereItWas x) {
        tell(x, "t000008;t400008;o09;o49;d07;p444;l0409;c03;d00;");
        x.keep(7, 0, 0, 0);
    }

    /** As many MEN who CARE for nothing; they come from a shelf, so that no text has made them. */
    static ToldWhereItWas men(int n) {
        ToldWhereItWas x = new ToldWhereItWas();
        x.keep(7, 1, MAN, 0);
        for (int p = 0; p < n; p++) {
            x.comes(7, 9);
        }
        x.keep(7, 0, 0, 0);
        return x;
    }

    /** What a text makes of a new town on which so many DAYS have gone by. */
    static ToldWhereItWas townOnDay(int day, String text) {
        ToldWhereItWas x = new ToldWhereItWas();
        for (int left = day; left > 0; left -= 60) {
            x.days(Math.min(60, left));
        }
        if (tell(x, text) < 0) {
            fail(test + ": the text " + text + " is refused");
        }
        tryOtherwise(x);
        return x;
    }

    static void rowOf(ToldWhereItWas x, int d, int sort, int... elements) {
        x.row(d, sort, elements.length);
        for (int i = 0; i < elements.length; i++) {
            x.put(d, i, elements[i]);
        }
    }

    /** One comes to KNOW all FACTS from one to another of a THING, of which he KNOWS none yet. */
    static void teach(ToldWhereItWas x, int p, int t, int from, int to) {
        for (int fact = from; fact <= to; fact++) {
            x.learns(p, t, fact);
        }
    }
}
