import java.io.IOException;
import java.lang.reflect.Constructor;
import java.lang.reflect.Field;
import java.lang.reflect.Method;
import java.lang.reflect.Modifier;
import java.nio.file.Files;
import java.nio.file.Path;
import java.util.List;
import java.util.Map;
import java.util.Set;
import java.util.TreeMap;
import java.util.TreeSet;
import java.util.regex.Matcher;
import java.util.regex.Pattern;

/** The program's face, and those rules of LANGUAGE.md that can be seen from its text and its classes. */
public final class LanguageTest {
    private static final Path PROGRAM = Path.of("src/main/java/GivenSearch.java");
    private static final Set<String> FACE = Set.of(
        "int feed(int,int,int,int,int)", "int end(int)", "int scopes()", "int fault()", "int is(int)", "int scope(int,int)",
        "int given(int,int)", "boolean out(int,boolean)", "boolean shut(int,boolean)", "int special(int,int)",
        "int clashes()", "int type(int)", "int relation(int,int,int)", "int unified(int,int)", "int ask(int)",
        "int asked(int)", "int node(int,int)", "int writeGoal(int)", "int writeTree()", "int writeAnswer()",
        "int both(int)", "int octet(int)", "int without(int)", "int needed()", "int mends()",
        "int candidates(int,int,int)", "int values(int,int,int)");

    private LanguageTest() {
    }

    public static void main(String[] args) throws IOException {
        face();
        classes();
        words();
        methods();
        Due.finish("LanguageTest");
    }

    private static void isTrue(String what, boolean is) {
        Due.due(what, is, true);
    }

    private static String told(Method m) {
        StringBuilder text = new StringBuilder(m.getReturnType().getSimpleName()).append(' ').append(m.getName()).append('(');
        for (Class<?> c : m.getParameterTypes()) {
            text.append(text.charAt(text.length() - 1) == '(' ? "" : ",").append(c.getSimpleName());
        }
        return text.append(')').toString();
    }

    private static void face() {
        Class<?> program = GivenSearch.class;
        isTrue("public and final", Modifier.isPublic(program.getModifiers()) && Modifier.isFinal(program.getModifiers()));
        Set<String> found = new TreeSet<>();
        for (Method m : program.getDeclaredMethods()) {
            if (Modifier.isPublic(m.getModifiers())) {
                found.add(told(m));
            } else {
                isTrue("private: " + m, Modifier.isPrivate(m.getModifiers()) || m.isSynthetic());
            }
        }
        Due.due("the face", new TreeSet<>(FACE).toString(), found.toString());
        for (Constructor<?> c : program.getDeclaredConstructors()) {
            isTrue("the constructor", Modifier.isPublic(c.getModifiers()) && c.getParameterCount() == 0);
        }
        for (Field f : program.getDeclaredFields()) {
            boolean isNone = f.getName().equals("NONE") && Modifier.isPublic(f.getModifiers());
            isTrue("private: " + f, isNone || Modifier.isPrivate(f.getModifiers()));
        }
    }

    private static Set<String> publicNames() {
        Set<String> names = new TreeSet<>();
        for (String told : FACE) {
            names.add(told.substring(told.indexOf(' ') + 1, told.indexOf('(')));
        }
        return names;
    }

    private static void classes() {
        Class<?>[] inside = GivenSearch.class.getDeclaredClasses();
        isTrue("rule 11: some twelve classes", inside.length + 1 <= 12);
        for (Class<?> c : inside) {
            isTrue("rule 2: static: " + c, Modifier.isStatic(c.getModifiers()) && !Modifier.isPublic(c.getModifiers()));
            for (Method m : c.getDeclaredMethods()) {
                isTrue("rule 1: a name of the face: " + m, !publicNames().contains(m.getName()));
            }
            fields(c);
        }
        fields(GivenSearch.class);
    }

    private static void fields(Class<?> c) {
        int fields = 0;
        for (Field f : c.getDeclaredFields()) {
            if (Modifier.isStatic(f.getModifiers())) {
                isTrue("rule 5: a constant: " + f, Modifier.isFinal(f.getModifiers()) && f.getType().isPrimitive());
            } else {
                fields++;
            }
        }
        isTrue("rule 11: some twenty fields: " + c + " has " + fields, fields <= 20);
        for (Method m : c.getDeclaredMethods()) {
            isTrue("rule 11: seven parameters: " + m, m.getParameterCount() <= 7);
        }
    }

    /** The text without its comments. */
    private static String program() throws IOException {
        return Files.readString(PROGRAM).replaceAll("(?s)/\\*.*?\\*/", "").replaceAll("//[^\n]*", "");
    }

    private static void words() throws IOException {
        String text = program();
        for (String word : List.of("throw", "try", "catch", "synchronized", "assert", "instanceof", "package", "equals",
            "hashCode", "toString", "String", "Object", "Integer\\.valueOf", "Exact", "protected", "float", "double",
            "record", "enum", "goto", "volatile", "native", "transient", "var", "yield")) {
            isTrue("rules 3 to 6: " + word, !Pattern.compile("\\b" + word + "\\b").matcher(text).find());
        }
        for (String sign : List.of("->", "::", "@", "\"", "?>", "\t")) {
            isTrue("rules 2 to 6: " + sign, !text.contains(sign));
        }
        Set<String> imports = new TreeSet<>();
        Matcher lines = Pattern.compile("(?m)^import (.*);$").matcher(text);
        while (lines.find()) {
            imports.add(lines.group(1));
        }
        Due.due("rule 4: imports", imports.toString(), "[java.util.Arrays]");
        Set<String> calls = new TreeSet<>();
        Matcher library = Pattern.compile("\\b(Arrays|Math|Integer|Long|System)\\.\\w+").matcher(text);
        while (library.find()) {
            calls.add(library.group());
        }
        calls.removeAll(List.of("Arrays.fill", "Arrays.copyOf", "Math.max", "Math.min", "Integer.bitCount", "System.arraycopy"));
        Due.due("rule 4: the library", calls.toString(), "[]");
    }

    private static void methods() throws IOException {
        String[] lines = Files.readString(PROGRAM).split("\n");
        Map<String, Integer> longOnes = new TreeMap<>();
        Pattern head = Pattern.compile("^( +)(?:public |private |static )*[\\w\\[\\]]+ (\\w+)\\([^;]*\\) \\{$");
        int seen = 0;
        for (int i = 0; i < lines.length; i++) {
            Matcher m = head.matcher(lines[i]);
            isTrue("a line's length: " + (i + 1), lines[i].length() <= 120);
            if (!m.matches() || m.group(2).matches("if|for|while|switch")) {
                continue;
            }
            seen++;
            int end = i;
            while (end < lines.length && !lines[end].equals(m.group(1) + "}")) {
                end++;
            }
            if (end - i + 1 > 60) {
                longOnes.put(m.group(2), end - i + 1);
            }
        }
        isTrue("methods are seen", seen > 100);
        Due.due("rule 11: methods of more than sixty lines", longOnes.toString(), "{}");
    }
}
