import java.io.IOException;
import java.lang.reflect.Constructor;
import java.lang.reflect.Field;
import java.lang.reflect.Method;
import java.lang.reflect.Modifier;
import java.nio.file.Files;
import java.nio.file.Path;
import java.util.Map;
import java.util.Set;
import java.util.TreeMap;
import java.util.TreeSet;
import java.util.regex.Matcher;
import java.util.regex.Pattern;

/** The class's face and those rules of LANGUAGE.md that can be read off the class or its text. */
public final class LanguageTest {
    private static final String SOURCE = "src/main/java/NodalCircuit.java";
    private static final Set<String> FACE = Set.of(
        "int points()", "int join(int,int,int)", "int chain(int,int,int)", "int probe(int,int)",
        "int conductance(int,int)", "int joined(int,int)", "int parts()", "long trees()",
        "long voltageTop(int)", "long voltageBottom(int)", "long currentTop()", "long currentBottom()",
        "long resistanceTop(int,int)", "long resistanceBottom(int,int)", "long flowTop(int,int)",
        "long flowBottom(int,int)", "long treesWith(int,int)", "int bridges()");
    private static final Set<Class<?>> TYPES = Set.of(
        int.class, long.class, short.class, byte.class, char.class, boolean.class,
        int[].class, long[].class, short[].class, byte[].class, char[].class, boolean[].class);
    private static final String[] FORBIDDEN = {
        "import", "package", "float", "double", "String", "Math", "Integer", "Long", "System", "Arrays",
        "null", "throw", "throws", "try", "catch", "synchronized", "assert", "instanceof", "enum",
        "interface", "record", "protected", "Object", "equals", "hashCode", "toString", "getClass"};
    private static final Pattern CALL = Pattern.compile("\\b(?!if\\b|for\\b|while\\b|switch\\b|return\\b)[A-Za-z]\\w*\\s*\\(");
    private static int wrong = 0;

    public static void main(String[] args) throws IOException {
        face();
        fields();
        words();
        dots();
        arrays();
        loops();
        callsInArguments();
        methodLengths();
        callDepth();
        System.out.println(wrong == 0 ? "the rules are kept" : wrong + " breaches");
        if (wrong != 0) {
            System.exit(1);
        }
    }

    private static void check(boolean kept, String breach) {
        if (!kept) {
            wrong++;
            System.out.println(breach);
        }
    }

    private static String signature(Method m) {
        StringBuilder text = new StringBuilder(m.getReturnType() + " " + m.getName() + "(");
        for (Class<?> type : m.getParameterTypes()) {
            text.append(text.charAt(text.length() - 1) == '(' ? "" : ",").append(type);
        }
        return text.append(")").toString();
    }

    private static void face() {
        Class<?> type = NodalCircuit.class;
        check(Modifier.isPublic(type.getModifiers()) && Modifier.isFinal(type.getModifiers()), "rule 1: public final");
        check(type.getDeclaredClasses().length == 0, "rule 1: nested class");
        Constructor<?>[] makers = type.getDeclaredConstructors();
        check(makers.length == 1 && Modifier.isPublic(makers[0].getModifiers()), "rule 1: constructors");
        Set<String> open = new TreeSet<>();
        Set<String> openNames = new TreeSet<>();
        for (Method m : type.getDeclaredMethods()) {
            if (!Modifier.isPrivate(m.getModifiers())) {
                open.add(signature(m));
                openNames.add(m.getName());
                check(!Modifier.isStatic(m.getModifiers()), "static in the face: " + m);
            }
        }
        check(open.equals(FACE), "rule 1: the face is " + open);
        for (Method m : type.getDeclaredMethods()) {
            boolean isPrivate = Modifier.isPrivate(m.getModifiers());
            check(!isPrivate || !openNames.contains(m.getName()), "rule 1: private and public " + m.getName());
            check(m.getParameterCount() <= 7, "rule 10: parameters of " + m.getName());
            for (Class<?> p : m.getParameterTypes()) {
                check(TYPES.contains(p), "rule 2: parameter of " + m.getName());
            }
            check(!m.getReturnType().isArray(), "rule 4: array answered by " + m.getName());
        }
    }

    private static void fields() {
        check(NodalCircuit.class.getDeclaredFields().length <= 40, "rule 10: fields");
        for (Field f : NodalCircuit.class.getDeclaredFields()) {
            int modifiers = f.getModifiers();
            check(Modifier.isPrivate(modifiers), "rule 1: field " + f.getName());
            check(TYPES.contains(f.getType()), "rule 2: field " + f.getName());
            if (Modifier.isStatic(modifiers)) {
                boolean number = f.getType() == int.class || f.getType() == long.class;
                check(number && Modifier.isFinal(modifiers), "rule 5: field " + f.getName());
            }
        }
    }

    private static String code() throws IOException {
        String text = Files.readString(Path.of(SOURCE));
        return text.replaceAll("(?s)/\\*.*?\\*/", " ").replaceAll("//[^\n]*", " ");
    }

    private static void words() throws IOException {
        String code = code();
        for (String word : FORBIDDEN) {
            check(!Pattern.compile("\\b" + word + "\\b").matcher(code).find(), "forbidden word: " + word);
        }
        check(!code.contains("->") && !code.contains("::"), "rule 6: lambda or method reference");
        check(!Pattern.compile("\\bstatic\\s*\\{").matcher(code).find(), "rule 5: static initialiser");
    }

    /** With no dot but for its own fields and an array's length, nothing of another class is reached. */
    private static void dots() throws IOException {
        String rest = code().replaceAll("\\.length(?![\\w(])", " ").replaceAll("\\bthis\\.[a-z]\\w*(?![\\w(])", " ");
        check(!rest.contains("."), "rule 3: a dot that is not for a field or a length");
        check(!Pattern.compile("\\bthis\\b").matcher(rest).find(), "rule 2: this as a value");
    }

    private static void arrays() throws IOException {
        Pattern field = Pattern.compile("private final \\w+\\[\\] \\w+ = new \\w+\\[[A-Z_0-9]+\\];");
        for (String line : code().split("\n")) {
            boolean makes = Pattern.compile("\\bnew\\b").matcher(line).find();
            check(!makes || field.matcher(line.trim()).matches(), "rule 4: made elsewhere: " + line.trim());
            check(!line.contains("[][]"), "rule 2: more than one dimension: " + line.trim());
        }
    }

    /** Each loop is a for whose head counts up to a bound, and whose body leaves the counter alone. */
    private static void loops() throws IOException {
        String code = code();
        check(!Pattern.compile("\\b(while|do)\\b").matcher(code).find(), "rule 8: a loop without a counter");
        Pattern counted = Pattern.compile("for \\(int (\\w+) = [^;]+; \\1 < \\w[^;|]*; \\1\\+\\+\\) \\{");
        Matcher loop = Pattern.compile("(?m)^( *)(for\\b.*)$").matcher(code);
        while (loop.find()) {
            Matcher head = counted.matcher(loop.group(2));
            boolean counts = head.matches();
            check(counts, "rule 8: " + loop.group(2));
            if (counts) {
                String body = code.substring(loop.end(), code.indexOf("\n" + loop.group(1) + "}", loop.end()));
                Pattern change = Pattern.compile("\\b" + head.group(1) + "(\\+\\+|--| (<<|>>|>>>|[-+*/%&|^])?=[^=])");
                check(!change.matcher(body).find(), "rule 8: the counter changes in " + loop.group(2));
            }
        }
    }

    /** The text of each method and of the constructor, by name. */
    private static Map<String, String> bodies() throws IOException {
        Map<String, String> bodies = new TreeMap<>();
        String code = code();
        Matcher head = Pattern.compile("(?m)^    (?:public|private)[\\w ]* (\\w+)\\([^)]*\\) \\{$").matcher(code);
        while (head.find()) {
            int end = code.indexOf("\n    }\n", head.end());
            bodies.put(head.group(1), code.substring(head.end(), end));
        }
        check(bodies.size() == NodalCircuit.class.getDeclaredMethods().length + 1, "methods found: " + bodies.keySet());
        return bodies;
    }

    private static void methodLengths() throws IOException {
        for (Map.Entry<String, String> body : bodies().entrySet()) {
            check(body.getValue().lines().count() <= 60, "rule 10: long method " + body.getKey());
        }
    }

    /** Each round finds what goes one call deeper; with recursion there would be no last round. */
    private static void callDepth() throws IOException {
        Map<String, String> bodies = bodies();
        Set<String> reached = new TreeSet<>(bodies.keySet());
        int depth = 0;
        while (!reached.isEmpty() && depth <= 6) {
            depth++;
            Set<String> deeper = new TreeSet<>();
            for (String caller : reached) {
                for (String called : bodies.keySet()) {
                    if (Pattern.compile("\\b" + called + "\\(").matcher(bodies.get(caller)).find()) {
                        deeper.add(called);
                    }
                }
            }
            reached = deeper;
        }
        check(depth <= 6, "rules 8 and 10: recursion, or calls more than six deep");
    }

    private static void callsInArguments() throws IOException {
        String code = code();
        Matcher call = CALL.matcher(code);
        while (call.find()) {
            int open = 1;
            int end = call.end();
            while (open > 0) {
                open += code.charAt(end) == '(' ? 1 : code.charAt(end) == ')' ? -1 : 0;
                end++;
            }
            String inside = code.substring(call.end(), end - 1);
            check(!CALL.matcher(inside).find(), "rule 10: call in arguments: " + call.group() + inside + ")");
        }
    }
}
