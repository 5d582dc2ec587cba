import java.io.IOException;
import java.lang.reflect.Constructor;
import java.lang.reflect.Field;
import java.lang.reflect.Method;
import java.lang.reflect.Modifier;
import java.nio.charset.StandardCharsets;
import java.nio.file.Files;
import java.nio.file.Path;
import java.util.Arrays;
import java.util.Set;
import java.util.TreeSet;
import java.util.regex.Matcher;
import java.util.regex.Pattern;

/** The face of the class, and those rules of ../shared/LANGUAGE.md that can be seen from outside. */
public final class LanguageTest {
    private static final Path SOURCE = Path.of("src/main/java/ToldWhereItWas.java");
    private static final String[] FACE = {
        "int town(int)", "int one(int,int)", "int thing(int,int)", "int story(int,int,int)", "int comes(int,int)",
        "int learns(int,int,int)", "int cares(int,int)", "int gives(int,int)", "int past(int,int)", "int days(int)",
        "int ownerThen(int,int)", "int storyThen(int,int,int)", "int ownsThen(int,int,int)", "int when(int,int)",
        "int loses(int)", "int lookAfter(int,int,int)", "int win(int,int)", "int ask(int,int)", "int care(int)",
        "int richest(int)", "int common(int,int)", "int whatIs(int,int,int)", "int whichPast(int,int,int)",
        "int two(int,int,int,int)", "long floods(int,int,int,int,int)", "long share(int,int)", "int forged(int)",
        "int judge(int,int)", "int years(int,int,int)", "int image()", "int restore()", "int count(int)",
        "int keep(int,int,int,int)", "int row(int,int,int)", "int put(int,int,int)", "long element(int,int)",
        "int copy(int,int,int,int,int)", "int cost(int)", "int toss(int)"};
    private static final String[] FORBIDDEN = {
        "->", "::", "\\bfinally\\b", "\\bsynchronized\\b", "\\bassert\\b", "\\bstatic\\s*\\{", "Exact\\(", "\\bgetMessage\\b",
        "\\b(hashCode|toString)\\b", "\\bInteger\\.[A-Z]", "\\bMath\\.(random|sqrt|pow)\\b", "\\bSystem\\.(?!arraycopy\\b)",
        "catch \\((Exception|Throwable|RuntimeException|ArrayIndexOutOfBoundsException|IndexOutOfBoundsException"
            + "|NullPointerException|ArithmeticException|ClassCastException|NegativeArraySizeException|ArrayStoreException)\\b",
        "\\bimport (?!java\\.util\\.(Arrays|ArrayList|List|Iterator);)", "^package "};

    private static final Pattern METHOD_HEAD =
        Pattern.compile("    (    )?(?!if |for |while |do |switch |try )[A-Za-z].*\\) (throws .*)?\\{");
    private static final Pattern METHOD_NAME = Pattern.compile("(\\w+)\\(");

    private static int wrong = 0;

    public static void main(String[] args) throws IOException {
        theFace();
        theMembers();
        theClassesInside();
        theSource();
        if (wrong != 0) {
            System.exit(1);
        }
    }

    private static void must(boolean so, String what) {
        if (!so) {
            wrong++;
            System.out.println("not so: " + what);
        }
    }

    private static void theFace() {
        Class<?> c = ToldWhereItWas.class;
        must(Modifier.isPublic(c.getModifiers()) && Modifier.isFinal(c.getModifiers()), "the class is public and final");
        Set<String> found = new TreeSet<>();
        for (Method m : c.getDeclaredMethods()) {
            if (!Modifier.isPrivate(m.getModifiers())) {
                StringBuilder b = new StringBuilder();
                for (Class<?> type : m.getParameterTypes()) {
                    b.append(b.length() == 0 ? "" : ",").append(type.getName());
                }
                found.add(m.getReturnType().getName() + " " + m.getName() + "(" + b + ")");
                must(Modifier.isPublic(m.getModifiers()) && !Modifier.isStatic(m.getModifiers()), m + " is public, not static");
                boolean isElement = m.getName().equals("element");
                must(m.getExceptionTypes().length == (isElement ? 2 : 0), m + " throws what is told");
            }
        }
        must(found.equals(new TreeSet<>(Arrays.asList(FACE))), "the face is as told: " + found);
        Constructor<?>[] constructors = c.getDeclaredConstructors();
        must(constructors.length == 1 && Modifier.isPublic(constructors[0].getModifiers())
            && constructors[0].getParameterCount() == 0, "one public constructor");
    }

    private static void theMembers() {
        Set<String> publicNames = new TreeSet<>();
        for (String method : FACE) {
            publicNames.add(method.substring(method.indexOf(' ') + 1, method.indexOf('(')));
        }
        for (Method m : ToldWhereItWas.class.getDeclaredMethods()) {
            must(!Modifier.isPrivate(m.getModifiers()) || !publicNames.contains(m.getName()), m + " has a name of its own");
            must(m.getParameterCount() <= 7, m + " takes at most seven parameters");
        }
        for (Field f : ToldWhereItWas.class.getDeclaredFields()) {
            must(Modifier.isPrivate(f.getModifiers()), f + " is private");
        }
    }

    private static void theClassesInside() {
        Class<?>[] inside = ToldWhereItWas.class.getDeclaredClasses();
        must(inside.length < 12, "at most some twelve classes");
        for (Class<?> c : inside) {
            must(Modifier.isStatic(c.getModifiers()) && !Modifier.isPublic(c.getModifiers())
                && !Modifier.isProtected(c.getModifiers()), c + " is static and not seen from outside");
            must(!Throwable.class.isAssignableFrom(c), c + " is no exception");
            fields(c);
        }
        fields(ToldWhereItWas.class);
    }

    private static void fields(Class<?> c) {
        int count = 0;
        for (Field f : c.getDeclaredFields()) {
            boolean isStatic = Modifier.isStatic(f.getModifiers());
            must(!isStatic || Modifier.isFinal(f.getModifiers()), f + " is final, if it is static");
            must(!isStatic || f.getType().isPrimitive() || f.getType() == String.class, f + " is a constant, if it is static");
            count += isStatic ? 0 : 1;
        }
        must(count <= 20, c + " has at most some twenty fields");
    }

    private static void theSource() throws IOException {
        String source = Files.readString(SOURCE, StandardCharsets.UTF_8);
        must(source.chars().allMatch(ch -> ch == '\n' || ch >= 32 && ch < 127), "signs are plain");
        String code = source.replaceAll("(?s)/\\*.*?\\*/", "").replaceAll("//[^\n]*", "");
        for (String words : FORBIDDEN) {
            Matcher m = Pattern.compile(words, Pattern.MULTILINE).matcher(code);
            must(!m.find(), "nothing like " + words + " stands in the source");
        }
        int open = 0;
        int start = 0;
        int methods = 0;
        String[] lines = source.split("\n");
        for (int i = 0; i < lines.length; i++) {
            if (METHOD_HEAD.matcher(lines[i]).matches()) {
                methods++;
                start = i;
                open = lines[i].indexOf(lines[i].trim());
            } else if (open > 0 && lines[i].matches(" {" + open + "}\\}")) {
                must(i - start < 60, "a method stays short: " + lines[start].trim());
                noRecursionButStatic(lines, start, i);
                open = 0;
            }
        }
        must(methods > 100 && open == 0, "methods are found in the source: " + methods);
    }

    /** A method between two lines that calls itself by its bare name must be private and static. */
    private static void noRecursionButStatic(String[] lines, int start, int end) {
        Matcher head = METHOD_NAME.matcher(lines[start]);
        if (!head.find() || lines[start].contains("private static ")) {
            return;
        }
        Pattern itself = Pattern.compile("(?<![.\\w])" + head.group(1) + "\\(");
        for (int i = start + 1; i < end; i++) {
            must(!itself.matcher(lines[i]).find(), "only a private static method calls itself: " + lines[start].trim());
        }
    }
}
