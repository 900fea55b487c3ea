import java.io.IOException;
import java.lang.reflect.Method;
import java.lang.reflect.Modifier;
import java.nio.charset.StandardCharsets;
import java.nio.file.Files;
import java.nio.file.Path;
import java.util.ArrayList;
import java.util.Arrays;
import java.util.List;
import java.util.Set;
import java.util.TreeSet;
import java.util.regex.Matcher;
import java.util.regex.Pattern;
import java.util.stream.Stream;

/** README.md: what it says that calls answer is what they answer, and it leaves no call and no test out. */
public final class ReadmeTest {
    private static final Path PAGE = Path.of("README.md");
    private static final Path TESTS = Path.of("src/test/java");
    private static final Pattern RUN = Pattern.compile("(?s)```java\n(.*?)```");
    private static final Pattern CALL = Pattern.compile("reader\\.(\\w+)\\((.*?)\\); +// ([^:\\s]+)(: .*)?");
    private static final Pattern ROW = Pattern.compile("(?m)^\\| `(?:(\\w+) )?(\\w+)\\(([^)]*)\\)` \\|.*\\|.*\\|$");
    private static final Pattern TEST = Pattern.compile("(?m)^- `(\\w+)`:");

    private static int wrong = 0;

    private ReadmeTest() {
    }

    public static void main(String[] args) throws Exception {
        String page = Files.readString(PAGE, StandardCharsets.UTF_8);
        checkRuns(page);
        checkTable(page);
        checkTests(page);
        System.out.println(wrong == 0 ? "README.md says what is so" : wrong + " things in README.md are not so");
        System.exit(wrong == 0 ? 0 : 1);
    }

    private static void complain(String what) {
        wrong++;
        System.out.println("README.md: " + what);
    }

    private static void checkRuns(String page) throws ReflectiveOperationException {
        Set<String> called = new TreeSet<>();
        Matcher run = RUN.matcher(page);
        while (run.find()) {
            checkRun(run.group(1).split("\n"), called);
        }
        Set<String> due = new TreeSet<>();
        for (Method method : openMethods()) {
            due.add(method.getName());
        }
        if (!called.equals(due)) {
            complain("the runs call " + called);
        }
    }

    private static void checkRun(String[] lines, Set<String> called) throws ReflectiveOperationException {
        if (!lines[0].equals("SongReader reader = new SongReader();")) {
            complain("a run begins with " + lines[0]);
        }
        SongReader reader = new SongReader();
        for (String line : Arrays.asList(lines).subList(1, lines.length)) {
            Matcher call = CALL.matcher(line);
            if (!call.matches()) {
                complain("no call with its answer: " + line);
                continue;
            }
            called.add(call.group(1));
            String got = String.valueOf(answer(reader, call.group(1), call.group(2)));
            if (!got.equals(call.group(3))) {
                complain(line + " (answered " + got + ")");
            }
        }
    }

    private static Object answer(SongReader reader, String name, String words) throws ReflectiveOperationException {
        String[] parts = words.isEmpty() ? new String[0] : words.split(", ");
        for (Method method : openMethods()) {
            if (method.getName().equals(name) && method.getParameterCount() == parts.length) {
                Object[] given = new Object[parts.length];
                for (int i = 0; i < parts.length; i++) {
                    given[i] = valueOf(parts[i], method.getParameterTypes()[i]);
                }
                return method.invoke(reader, given);
            }
        }
        return "nothing: there is no such call";
    }

    private static Object valueOf(String word, Class<?> type) {
        if (type == boolean.class) {
            return word.equals("true");
        }
        if (type == long.class) {
            return Long.parseLong(word.substring(0, word.length() - 1));
        }
        return word.startsWith("0x") ? Integer.parseUnsignedInt(word.substring(2), 16) : Integer.parseInt(word);
    }

    private static List<Method> openMethods() {
        List<Method> open = new ArrayList<>();
        for (Method method : SongReader.class.getDeclaredMethods()) {
            if (Modifier.isPublic(method.getModifiers())) {
                open.add(method);
            }
        }
        return open;
    }

    private static void checkTable(String page) {
        Set<String> told = new TreeSet<>();
        Matcher row = ROW.matcher(page);
        while (row.find()) {
            String kind = row.group(1) == null ? "" : row.group(1) + " ";
            told.add(kind + row.group(2) + "(" + row.group(3).replaceAll(" \\w+(, |$)", ",").replaceAll(",$", "") + ")");
        }
        Set<String> due = new TreeSet<>(Set.of("SongReader()"));
        for (Method method : openMethods()) {
            due.add(method.toString().replace("public ", "").replace("SongReader.", ""));
        }
        if (!told.equals(due)) {
            complain("its table has " + told + ", the face " + due);
        }
        if (!page.contains("`int NONE` is " + SongReader.NONE)) {
            complain("it does not say what NONE is");
        }
    }

    private static void checkTests(String page) throws IOException {
        Set<String> told = new TreeSet<>();
        Matcher test = TEST.matcher(page);
        while (test.find()) {
            told.add(test.group(1));
        }
        Set<String> due = new TreeSet<>();
        try (Stream<Path> files = Files.list(TESTS)) {
            files.map(file -> file.getFileName().toString()).filter(name -> name.endsWith("Test.java"))
                .forEach(name -> due.add(name.substring(0, name.length() - ".java".length())));
        }
        if (!told.equals(due)) {
            complain("it lists the tests " + told + ", and there are " + due);
        }
        if (!page.contains("\n    bash .ci/run\n")) {
            complain("it does not say how to run the tests");
        }
    }
}
