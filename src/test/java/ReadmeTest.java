import java.io.IOException;
import java.lang.reflect.InvocationTargetException;
import java.lang.reflect.Method;
import java.lang.reflect.Modifier;
import java.nio.file.DirectoryStream;
import java.nio.file.Files;
import java.nio.file.Path;
import java.util.Map;
import java.util.TreeMap;
import java.util.regex.Matcher;
import java.util.regex.Pattern;

/** README.md tells the truth: its example answers as it says, and it leaves out no call and no test. */
public final class ReadmeTest extends Sheet {
    private static final Path README = Path.of("README.md");
    private static final Pattern EXAMPLE_LINE = Pattern.compile("x\\.(\\w+)\\(([^)]*)\\);\\s*// (-?\\d+|[A-Z]+)(?=\\W|$)");
    private static final Map<String, Integer> WORDS = Map.of("NONE", NONE, "UNKNOWN", UNKNOWN, "OUTSIDE", OUTSIDE,
            "NOT", NOT, "FULL", FULL);

    private ReadmeTest() { }

    public static void main(String[] args) throws IOException, ReflectiveOperationException {
        String text = Files.readString(README);
        example(text);
        calls(text);
        tests(text);
        finish("ReadmeTest");
    }

    private static void example(String text) throws ReflectiveOperationException {
        about = "README.md, the example";
        Map<String, Method> face = face();
        Matcher block = Pattern.compile("(?s)```java\n(.*?)```").matcher(text);
        boolean there = block.find();
        due("there is an example", there ? 1 : 0, 1);
        if (!there) return;
        RepeaterWires x = new RepeaterWires();
        int asked = 0;
        int linesWithCalls = 0;
        for (String line : block.group(1).split("\n")) {
            if (line.contains("x.")) linesWithCalls++;
            Matcher call = EXAMPLE_LINE.matcher(line);
            if (!call.find()) continue;
            asked++;
            due(line, ask(x, face.get(call.group(1)), call.group(2)), number(call.group(3)));
        }
        due("lines of the example with their answer", asked, linesWithCalls);
        due("the example asks something", asked > 10 ? 1 : 0, 1);
    }

    private static int ask(RepeaterWires x, Method method, String listed) throws ReflectiveOperationException {
        String[] words = listed.isBlank() ? new String[0] : listed.split(",\\s*");
        Object[] numbers = new Object[words.length];
        for (int i = 0; i < words.length; i++) numbers[i] = Integer.parseInt(words[i].strip());
        try {
            return (Integer) method.invoke(x, numbers);
        } catch (InvocationTargetException e) {
            throw new AssertionError(method + " threw", e.getCause());
        }
    }

    private static int number(String word) {
        Integer known = WORDS.get(word);
        return known != null ? known : Integer.parseInt(word);
    }

    private static Map<String, Method> face() {
        Map<String, Method> all = new TreeMap<>();
        for (Method m : RepeaterWires.class.getDeclaredMethods()) {
            if (Modifier.isPublic(m.getModifiers())) all.put(m.getName(), m);
        }
        return all;
    }

    private static void calls(String text) {
        about = "README.md, the calls";
        for (Map.Entry<String, Method> one : face().entrySet()) {
            Matcher row = Pattern.compile("\\| `" + one.getKey() + "\\(([^)]*)\\)` \\|").matcher(text);
            boolean told = row.find();
            due(one.getKey() + " has a row", told ? 1 : 0, 1);
            if (!told) continue;
            int names = row.group(1).isBlank() ? 0 : row.group(1).split(",").length;
            due("numbers that " + one.getKey() + " takes", names, one.getValue().getParameterCount());
        }
    }

    private static void tests(String text) throws IOException {
        about = "README.md, the tests";
        try (DirectoryStream<Path> files = Files.newDirectoryStream(Path.of("src/test/java"), "*.java")) {
            for (Path file : files) {
                String name = file.getFileName().toString().replace(".java", "");
                due(name + " is told of", text.contains("`" + name + "`") ? 1 : 0, 1);
            }
        }
        Matcher named = Pattern.compile("`(\\w+Test)`").matcher(text);
        while (named.find()) {
            due(named.group(1) + " is there", Files.exists(Path.of("src/test/java", named.group(1) + ".java")) ? 1 : 0, 1);
        }
    }
}
