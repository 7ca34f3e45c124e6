import java.io.IOException;
import java.lang.reflect.Field;
import java.lang.reflect.Method;
import java.lang.reflect.Modifier;
import java.nio.file.Files;
import java.nio.file.Path;
import java.util.ArrayList;
import java.util.List;
import java.util.Map;
import java.util.Set;
import java.util.TreeMap;
import java.util.TreeSet;
import java.util.regex.Matcher;
import java.util.regex.Pattern;

/** The rules of LANGUAGE.md, as far as a look at the text and at the compiled class can tell. */
public final class LanguageTest {
    private static final Path SOURCE = Path.of("src/main/java/RepeaterWires.java");
    private static final String[] FACE = {
        "int told(int)", "int at(int,int)", "int kindAt(int,int)", "int candidates(int,int)",
        "int candidate(int,int,int,int)", "int point(int,int)", "int best(int)", "int least(int)", "int would(int,int)",
        "int node(int,int,int)", "int end(int,int,int,int)", "int wire(int,int,int,int)", "int pull(int)",
        "int kind(int,int,int,int,int,int)", "int drop(int)", "int place(int,int)", "int take()", "int change()",
        "int drift(int)", "int undo(int)", "int write(int,int)", "int tear()", "int seed(int)", "int keep(int)",
        "int goBack(int)"};
    private static final Set<String> CONSTANTS = Set.of("NONE", "PLUS", "NEVER", "UNKNOWN", "OUTSIDE", "NOT", "FULL");

    private static int passed = 0;
    private static int failed = 0;

    public static void main(String[] args) throws IOException {
        String code = withoutComments(Files.readString(SOURCE));
        words(code);
        library(code);
        lengths(code);
        depth(code);
        face();
        for (Class<?> inside : RepeaterWires.class.getDeclaredClasses()) insideClass(inside);
        ok("at most twelve classes", RepeaterWires.class.getDeclaredClasses().length < 12);
        System.out.println("LanguageTest: " + passed + " passed, " + failed + " failed");
        if (failed != 0) System.exit(1);
    }

    private static void ok(String what, boolean holds) {
        if (holds) {
            passed++;
        } else {
            failed++;
            System.out.println("LANGUAGE.md: " + what);
        }
    }

    private static String withoutComments(String text) {
        return text.replaceAll("(?s)/\\*.*?\\*/", "").replaceAll("//[^\n]*", "");
    }

    private static void words(String code) {
        String[] none = {"throw", "throws", "try", "catch", "finally", "synchronized", "assert", "package", "native",
            "volatile", "transient", "protected", "Exception", "Error", "System\\.(?!arraycopy)\\w+", "Math\\.\\w*Exact",
            "Random", "Thread", "Object", "equals", "hashCode", "toString", "HashMap", "Map", "stream", "var"};
        for (String word : none) ok("no " + word, !Pattern.compile("\\b" + word + "\\b").matcher(code).find());
        ok("no lambda", !code.contains("->"));
        ok("no method reference", !code.contains("::"));
        ok("no static initialiser", !Pattern.compile("\\bstatic\\s*\\{").matcher(code).find());
        Matcher imports = Pattern.compile("import ([^;]+);").matcher(code);
        Set<String> allowed = Set.of("java.util.Arrays", "java.util.ArrayList", "java.util.List", "java.util.Iterator");
        while (imports.find()) ok("import " + imports.group(1), allowed.contains(imports.group(1)));
        // the only divisions are by numbers that are written out, or by n behind its test
        Matcher divisions = Pattern.compile("[/%]=?\\s*([^\\s;)\\]]+)").matcher(code);
        Set<String> divisors = Set.of("10", "65536", "MOST_DEEDS", "n");
        while (divisions.find()) ok("divides by " + divisions.group(1), divisors.contains(divisions.group(1)));
    }

    private static void library(String code) {
        Set<String> allowed = Set.of("System.arraycopy", "Arrays.copyOf", "Arrays.copyOfRange", "Arrays.fill", "Math.max",
                "Math.min", "Math.abs", "Math.floorDiv", "Math.floorMod", "Integer.bitCount", "Integer.compare");
        Matcher used = Pattern.compile("(?<![\\w.])(System|Arrays|Math|Integer|Long|List|String|Character|Objects)\\.\\w+").matcher(code);
        while (used.find()) ok("the library: " + used.group(), allowed.contains(used.group()));
        ok("no float, no double", !Pattern.compile("\\b(float|double|Float|Double)\\b").matcher(code).find());
        ok("no texts", !code.contains("\""));
        // what throws if it is not looked at first: none is in the class, so none needs a test ahead of it
        ok("no cast but to int", !Pattern.compile("\\((?!int\\))[A-Za-z]\\w*(\\[\\])*\\) ?[\\w(]").matcher(code).find());
        ok("no null", !Pattern.compile("\\bnull\\b").matcher(code).find());
        Matcher rows = Pattern.compile("new \\w+\\[([^\\]]*)\\]").matcher(code);
        while (rows.find()) {
            ok("a row of a constant's length: " + rows.group(), rows.group(1).matches("(\\d+ \\* )?[A-Z_]+( \\+ \\d+)?"));
        }
    }

    /** Rules 8 and 11: which method calls which, by name alone, so that no chain can be longer than it is found here. */
    private static void depth(String code) {
        Matcher heads = Pattern.compile("\n( {4,8})(?:[\\w\\[\\]]+ )*(\\w+)\\([^()]*\\) \\{\n").matcher(code);
        Map<String, String> bodies = new TreeMap<>();
        while (heads.find()) {
            int close = code.indexOf("\n" + heads.group(1) + "}\n", heads.end() - 1);
            bodies.merge(heads.group(2), code.substring(heads.end(), close), String::concat);
        }
        int most = 0;
        for (String name : bodies.keySet()) {
            int deep = deepest(name, bodies, new ArrayList<>());
            ok("no recursion: " + name, deep > 0);
            most = Math.max(most, deep);
        }
        ok("calls go " + most + " deep", most > 1 && most <= 8);
    }

    /** How many methods stand open at once below this one, with it; far below 0: one of them calls itself. */
    private static int deepest(String name, Map<String, String> bodies, List<String> open) {
        if (open.contains(name)) return -1000;
        if (!bodies.containsKey(name)) return 1;
        open.add(name);
        int most = 0;
        Matcher calls = Pattern.compile("\\b(\\w+)\\(").matcher(bodies.get(name));
        while (calls.find() && most >= 0) {
            int deep = deepest(calls.group(1), bodies, open);
            most = deep < 0 ? deep : Math.max(most, deep);
        }
        open.remove(name);
        return most + 1;
    }

    private static void lengths(String code) {
        Matcher heads = Pattern.compile("\n( {4,8})(?:[\\w\\[\\]]+ )*\\w+\\(([^()]*)\\) \\{\n").matcher(code);
        int found = 0;
        while (heads.find()) {
            found++;
            int close = code.indexOf("\n" + heads.group(1) + "}\n", heads.end() - 1);
            long lines = code.substring(heads.start(), close).chars().filter(c -> c == '\n').count();
            ok("a method of " + lines + " lines", lines <= 60);
            ok("parameters: " + heads.group(2), heads.group(2).split(",").length <= 7);
        }
        ok("methods were found", found > 40);
        for (char c : code.toCharArray()) if (c > 127) ok("sign " + (int) c, false);
    }

    private static String signature(Method m) {
        List<String> parameters = new ArrayList<>();
        for (Class<?> p : m.getParameterTypes()) parameters.add(p.getSimpleName());
        return m.getReturnType().getSimpleName() + " " + m.getName() + "(" + String.join(",", parameters) + ")";
    }

    private static void face() {
        Class<?> c = RepeaterWires.class;
        ok("public and final", Modifier.isPublic(c.getModifiers()) && Modifier.isFinal(c.getModifiers()));
        Set<String> seen = new TreeSet<>();
        Set<String> hidden = new TreeSet<>();
        for (Method m : c.getDeclaredMethods()) {
            if (Modifier.isPrivate(m.getModifiers())) {
                hidden.add(m.getName());
            } else {
                ok("public: " + m, Modifier.isPublic(m.getModifiers()) && !Modifier.isStatic(m.getModifiers()));
                seen.add(signature(m));
            }
        }
        ok("the face's methods: " + seen, seen.equals(new TreeSet<>(List.of(FACE))));
        for (String one : FACE) {
            String name = one.substring(4, one.indexOf('('));
            ok("private method of the name " + name, !hidden.contains(name));
        }
        ok("one public constructor without parameters", c.getConstructors().length == 1
                && c.getDeclaredConstructors().length == 1 && c.getConstructors()[0].getParameterCount() == 0);
        int constants = 0;
        for (Field f : c.getDeclaredFields()) {
            int m = f.getModifiers();
            if (CONSTANTS.contains(f.getName())) {
                constants++;
                ok("constant " + f, Modifier.isPublic(m) && Modifier.isStatic(m) && Modifier.isFinal(m) && f.getType() == int.class);
            } else {
                ok("private field " + f, Modifier.isPrivate(m));
            }
            ok("static fields are final: " + f, !Modifier.isStatic(m) || Modifier.isFinal(m));
        }
        ok("all constants", constants == CONSTANTS.size());
    }

    private static void insideClass(Class<?> inside) {
        ok("static: " + inside, Modifier.isStatic(inside.getModifiers()));
        ok("not public: " + inside, !Modifier.isPublic(inside.getModifiers()) && !Modifier.isProtected(inside.getModifiers()));
        ok("some twenty fields: " + inside, inside.getDeclaredFields().length <= 20);
        for (Field f : inside.getDeclaredFields()) ok("static field " + f, !Modifier.isStatic(f.getModifiers()));
        for (Method m : inside.getDeclaredMethods()) {
            for (String one : FACE) ok("method " + m + " bears a public name", !one.startsWith("int " + m.getName() + "("));
        }
    }
}
