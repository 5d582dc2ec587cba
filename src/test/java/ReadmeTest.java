import java.io.IOException;
import java.lang.reflect.InvocationTargetException;
import java.lang.reflect.Method;
import java.nio.charset.StandardCharsets;
import java.nio.file.DirectoryStream;
import java.nio.file.Files;
import java.nio.file.Path;
import java.util.List;
import java.util.regex.Matcher;
import java.util.regex.Pattern;

/** What README.md shows as an answer is what the class answers; the page names each test of the project. */
public final class ReadmeTest {
    private static final Path PAGE = Path.of("README.md");
    private static final Path TESTS = Path.of("src/test/java");
    private static final String MAKES = "ToldWhereItWas town = new ToldWhereItWas();";
    private static final Pattern CALL = Pattern.compile("town\\.(\\w+)\\((.*)\\); +// (-?\\d+|throws \\w+): .*");
    private static final int LEAST_OBJECTS = 2;
    private static final int LEAST_CALLS = 40;

    private static int wrong = 0;
    private static int objects = 0;
    private static int calls = 0;
    private static boolean isThrowShown = false;
    private static boolean isRefusalShown = false;

    public static void main(String[] args) throws IOException {
        List<String> page = Files.readAllLines(PAGE, StandardCharsets.UTF_8);
        run(page);
        must(objects >= LEAST_OBJECTS && calls >= LEAST_CALLS, "the page shows " + objects + " objects, " + calls + " calls");
        must(isThrowShown, "the page shows no call that throws");
        must(isRefusalShown, "the page shows no refusal");
        namesEachTest(String.join("\n", page));
        if (wrong != 0) {
            System.exit(1);
        }
    }

    private static void must(boolean so, String otherwise) {
        if (!so) {
            wrong++;
            System.out.println(otherwise);
        }
    }

    /** Runs the lines of code on the page; one that is neither a call with its answer nor a comment is wrong. */
    private static void run(List<String> page) {
        boolean isCode = false;
        ToldWhereItWas town = null;
        for (String line : page) {
            if (line.startsWith("```")) {
                isCode = line.equals("```java");
                town = null;
            } else if (isCode && line.equals(MAKES)) {
                town = new ToldWhereItWas();
                objects++;
            } else if (isCode && !line.isEmpty() && !line.startsWith("//")) {
                Matcher call = CALL.matcher(line);
                must(town != null && call.matches(), "README.md shows a line without an answer: " + line);
                if (town != null && call.matches()) {
                    String got = answer(town, call.group(1), call.group(2));
                    must(got.equals(call.group(3)), "README.md shows " + line + " where the answer is " + got);
                    calls++;
                    isThrowShown |= got.startsWith("throws ");
                    isRefusalShown |= got.startsWith("-");
                }
            }
        }
    }

    private static String answer(ToldWhereItWas town, String name, String words) {
        for (Method method : ToldWhereItWas.class.getMethods()) {
            if (method.getName().equals(name)) {
                try {
                    return String.valueOf(method.invoke(town, numbers(words)));
                } catch (InvocationTargetException e) {
                    return "throws " + e.getCause().getClass().getSimpleName();
                } catch (IllegalAccessException | IllegalArgumentException e) {
                    return "no answer: " + e.getMessage();
                }
            }
        }
        return "no answer: there is no call " + name;
    }

    /** Numbers with commas between them; 'x' is the number of a sign. */
    private static Object[] numbers(String words) {
        if (words.isEmpty()) {
            return new Object[0];
        }
        String[] parts = words.split(", ");
        Object[] numbers = new Object[parts.length];
        for (int i = 0; i < parts.length; i++) {
            boolean isSign = parts[i].length() == 3 && parts[i].charAt(0) == '\'';
            numbers[i] = isSign ? parts[i].charAt(1) : Integer.parseInt(parts[i]);
        }
        return numbers;
    }

    private static void namesEachTest(String page) throws IOException {
        try (DirectoryStream<Path> files = Files.newDirectoryStream(TESTS, "*Test.java")) {
            for (Path file : files) {
                String name = file.getFileName().toString().replace(".java", "");
                must(page.contains("`" + name + "`"), "README.md does not name " + name);
            }
        }
        Matcher named = Pattern.compile("`(\\w+Test)`").matcher(page);
        while (named.find()) {
            must(Files.exists(TESTS.resolve(named.group(1) + ".java")), "README.md names " + named.group(1));
        }
    }
}
