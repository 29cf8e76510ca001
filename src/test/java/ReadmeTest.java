import java.io.IOException;
import java.lang.reflect.Method;
import java.lang.reflect.Modifier;
import java.nio.file.DirectoryStream;
import java.nio.file.Files;
import java.nio.file.Path;
import java.util.Set;
import java.util.TreeSet;
import java.util.regex.Matcher;
import java.util.regex.Pattern;

/** What README.md shows: each call with its answer, every method of the class, every test. */
public final class ReadmeTest {
    private static final Path README = Path.of("README.md");
    private static final Path TESTS = Path.of("src/test/java");
    private static final Pattern EXAMPLE = Pattern.compile("(?s)```java\n(.*?)```");
    private static final Pattern MADE = Pattern.compile("NodalCircuit x = new NodalCircuit\\((\\d+)\\);");
    private static final Pattern CALL = Pattern.compile("x\\.(\\w+)\\(([-\\d, ]*)\\); +// (-?\\d+)(:.*)?");
    private static int wrong = 0;

    public static void main(String[] args) throws IOException, ReflectiveOperationException {
        String readme = Files.readString(README);
        Set<String> called = example(readme);
        everyMethod(readme, called);
        everyTest(readme);
        System.out.println(wrong == 0 ? "README.md is right" : wrong + " places in README.md are not right");
        if (wrong != 0) {
            System.exit(1);
        }
    }

    private static void check(boolean right, String what) {
        if (!right) {
            wrong++;
            System.out.println(what);
        }
    }

    /** Plays the example and answers the names of the methods in it. */
    private static Set<String> example(String readme) throws ReflectiveOperationException {
        Set<String> called = new TreeSet<>();
        Matcher example = EXAMPLE.matcher(readme);
        if (!example.find()) {
            check(false, "there is no example");
            return called;
        }
        NodalCircuit x = null;
        for (String line : example.group(1).split("\n")) {
            Matcher made = MADE.matcher(line);
            Matcher call = CALL.matcher(line);
            if (made.matches()) {
                x = new NodalCircuit(Integer.parseInt(made.group(1)));
            } else if (x != null && call.matches()) {
                called.add(call.group(1));
                long got = answer(x, call.group(1), call.group(2));
                check(got == Long.parseLong(call.group(3)), line + " answered " + got);
            } else {
                check(false, "not a call with its answer: " + line);
            }
        }
        return called;
    }

    private static long answer(NodalCircuit x, String name, String list) throws ReflectiveOperationException {
        String[] words = list.isBlank() ? new String[0] : list.split(",");
        Class<?>[] types = new Class<?>[words.length];
        Object[] numbers = new Object[words.length];
        for (int i = 0; i < words.length; i++) {
            types[i] = int.class;
            numbers[i] = Integer.parseInt(words[i].trim());
        }
        Object answer = NodalCircuit.class.getMethod(name, types).invoke(x, numbers);
        return ((Number) answer).longValue();
    }

    private static void everyMethod(String readme, Set<String> called) {
        for (Method m : NodalCircuit.class.getDeclaredMethods()) {
            if (Modifier.isPublic(m.getModifiers())) {
                check(called.contains(m.getName()), "not in the example: " + m.getName());
                check(readme.contains("`" + m.getName() + "("), "not in the table: " + m.getName());
            }
        }
    }

    private static void everyTest(String readme) throws IOException {
        Set<String> there = new TreeSet<>();
        try (DirectoryStream<Path> files = Files.newDirectoryStream(TESTS, "*.java")) {
            for (Path file : files) {
                there.add(file.getFileName().toString());
            }
        }
        Set<String> told = new TreeSet<>();
        Matcher item = Pattern.compile("(?m)^- `src/test/java/(\\w+\\.java)`").matcher(readme);
        while (item.find()) {
            told.add(item.group(1));
        }
        check(told.equals(there), "tests there: " + there + ", tests told: " + told);
    }
}
