import java.io.File;
import java.io.IOException;
import java.lang.reflect.Method;
import java.lang.reflect.Modifier;
import java.nio.file.Files;
import java.nio.file.Path;
import java.util.regex.Matcher;
import java.util.regex.Pattern;

/** README.md is true: its calls answer as it says there, and it leaves out no call, no test and no class inside. */
public final class ReadmeTest {
    private static final Path PAGE = Path.of("README.md");
    private static final Path TESTS = Path.of("src/test/java");
    private static final Pattern CALL = Pattern.compile("x\\.(\\w+)\\(([^)]*)\\); *// (-?\\d+|true|false)(:.*)?");

    private ReadmeTest() {
    }

    public static void main(String[] args) throws IOException, ReflectiveOperationException {
        String page = Files.readString(PAGE);
        calls(page);
        face(page);
        tests(page);
        inside(page);
        Due.finish("ReadmeTest");
    }

    private static void calls(String page) throws ReflectiveOperationException {
        GivenSearch x = new GivenSearch();
        int from = page.indexOf("```java\n");
        int calls = 0;
        for (String line : page.substring(from + 8, page.indexOf("```", from + 8)).split("\n")) {
            if (line.equals("GivenSearch x = new GivenSearch();") || line.startsWith("// ")) {
                continue;
            }
            Matcher call = CALL.matcher(line);
            Due.due("README: a call and its answer: " + line, call.matches(), true);
            if (call.matches()) {
                Due.due("README: " + line, answer(x, call.group(1), call.group(2)), call.group(3));
                calls++;
            }
        }
        Due.due("README: some calls, 512 at most", calls > 20 && calls <= 512, true);
    }

    private static String answer(GivenSearch x, String name, String told) throws ReflectiveOperationException {
        String[] words = told.isEmpty() ? new String[0] : told.split(", ");
        Object[] values = new Object[words.length];
        Class<?>[] kinds = new Class<?>[words.length];
        for (int i = 0; i < words.length; i++) {
            boolean isBoolean = words[i].equals("true") || words[i].equals("false");
            kinds[i] = isBoolean ? boolean.class : int.class;
            values[i] = isBoolean ? (Object) Boolean.valueOf(words[i]) : (Object) Long.decode(words[i]).intValue();
        }
        Method method = GivenSearch.class.getMethod(name, kinds);
        return String.valueOf(method.invoke(x, values));
    }

    private static void named(String page, String name) {
        Due.due("README: names " + name, page.contains("`" + name + "`"), true);
    }

    /** Each call stands in the table of the calls, too. */
    private static void face(String page) {
        int from = page.indexOf("### The calls");
        int to = page.indexOf("### Good to know");
        Due.due("README: tells the calls", from >= 0 && to > from, true);
        String table = from >= 0 && to > from ? page.substring(from, to) : "";
        for (Method m : GivenSearch.class.getDeclaredMethods()) {
            if (Modifier.isPublic(m.getModifiers())) {
                named(table, m.getName());
            }
        }
    }

    /** Each test that there is is named, and each that is named is there. */
    private static void tests(String page) {
        File[] files = TESTS.toFile().listFiles();
        for (File file : files == null ? new File[0] : files) {
            String name = file.getName().replace(".java", "");
            if (name.endsWith("Test")) {
                named(page, name);
            }
        }
        Matcher names = Pattern.compile("\\b\\w+Test\\b").matcher(page);
        while (names.find()) {
            Due.due("README: there is " + names.group(), Files.exists(TESTS.resolve(names.group() + ".java")), true);
        }
    }

    private static void inside(String page) {
        for (Class<?> c : GivenSearch.class.getDeclaredClasses()) {
            named(page, c.getSimpleName());
        }
    }
}
