import java.io.File;
import java.io.IOException;
import java.io.StringWriter;
import java.lang.reflect.InvocationTargetException;
import java.nio.file.Files;
import java.nio.file.Path;
import java.util.ArrayList;
import java.util.List;
import java.util.concurrent.Callable;
import java.util.concurrent.ExecutionException;
import java.util.concurrent.ExecutorService;
import java.util.concurrent.Executors;
import java.util.concurrent.Future;
import java.util.concurrent.TimeUnit;
import java.util.regex.Matcher;
import java.util.regex.Pattern;
import javax.tools.JavaCompiler;
import javax.tools.StandardJavaFileManager;
import javax.tools.ToolProvider;

/**
 * Run by hand, not by .ci/run: breaks the class in one place at a time and tells which of the broken ones no test finds.
 * java -cp CLASSES Mutants TEST .., from the project's folder, with CLASSES as .ci/run compiles them.
 */
public final class Mutants {
    private static final Path SOURCE = Path.of("src/main/java/RepeaterWires.java");
    private static final int SECONDS = 20;
    // what stands there, and what is put there in its stead
    private static final String[][] SWAPS = {
        {" < ", " <= "}, {" < ", " >= "}, {" <= ", " < "}, {" <= ", " > "}, {" > ", " >= "}, {" > ", " <= "},
        {" >= ", " > "}, {" >= ", " < "}, {" == ", " != "}, {" != ", " == "}, {" && ", " || "}, {" || ", " && "},
        {" + ", " - "}, {" - ", " + "}, {" * ", " + "}, {" ^ ", " | "}, {" & ", " | "}, {" >> ", " << "}, {"!", ""},
        {"~", ""}, {"++", "--"}, {"--", "++"}, {" += ", " -= "}, {" |= ", " = "}, {" &= ", " = "}, {" true", " false"},
        {" false", " true"}, {"Math.min", "Math.max"}, {"Math.max", "Math.min"},
        {"UNKNOWN", "OUTSIDE"}, {"OUTSIDE", "NOT"}, {"NOT;", "UNKNOWN;"}, {"FULL;", "NOT;"}, {"NONE", "0"}, {"NEVER", "0"}, {" + PLUS", ""}};

    private record Mutant(int line, String was, String is) { }

    private Mutants() { }

    public static void main(String[] args) throws Exception {
        if (args.length > 0 && args[0].equals("run")) {
            for (int i = 1; i < args.length; i++) runTest(args[i]);
            return;
        }
        List<String> lines = Files.readAllLines(SOURCE);
        List<Mutant> mutants = allMutants(lines);
        Path room = Files.createTempDirectory("mutants");
        ExecutorService workers = Executors.newFixedThreadPool(Runtime.getRuntime().availableProcessors());
        List<Future<String>> answers = new ArrayList<>();
        for (int i = 0; i < mutants.size(); i++) {
            Path own = room.resolve("m" + i);
            Mutant mutant = mutants.get(i);
            Callable<String> trial = () -> judge(lines, mutant, own, args);
            answers.add(workers.submit(trial));
        }
        tellAll(mutants, answers);
        workers.shutdown();
    }

    private static void runTest(String name) throws ReflectiveOperationException {
        try {
            Class.forName(name).getMethod("main", String[].class).invoke(null, (Object) new String[0]);
        } catch (InvocationTargetException e) {
            System.exit(1);
        }
    }

    private static void tellAll(List<Mutant> mutants, List<Future<String>> answers) throws InterruptedException, ExecutionException {
        int found = 0;
        int broken = 0;
        int left = 0;
        for (int i = 0; i < mutants.size(); i++) {
            String answer = answers.get(i).get();
            if (answer.equals("found")) found++;
            if (answer.equals("does not compile")) broken++;
            if (answer.equals("left")) {
                left++;
                Mutant m = mutants.get(i);
                System.out.println("line " + m.line + "\n  - " + m.was.strip() + "\n  + " + m.is.strip());
            }
        }
        System.out.println(found + " found, " + left + " left, " + broken + " do not compile");
    }

    private static List<Mutant> allMutants(List<String> lines) {
        List<Mutant> all = new ArrayList<>();
        for (int i = 0; i < lines.size(); i++) {
            String line = lines.get(i);
            String text = line.strip();
            // constants of the face are written into the tests as they are compiled
            boolean code = !text.isEmpty() && !text.startsWith("//") && !text.startsWith("*") && !text.startsWith("/*")
                    && !text.startsWith("import") && !text.startsWith("public static final");
            if (code) mutantsOf(i + 1, line, all);
        }
        return all;
    }

    private static void mutantsOf(int number, String line, List<Mutant> all) {
        for (String[] swap : SWAPS) {
            for (int at = line.indexOf(swap[0]); at >= 0; at = line.indexOf(swap[0], at + 1)) {
                if (swap[0].equals("!") && line.startsWith("!=", at)) continue;
                all.add(new Mutant(number, line, line.substring(0, at) + swap[1] + line.substring(at + swap[0].length())));
            }
        }
        Matcher numbers = Pattern.compile("(?<![\\w.])\\d+(?!\\w)").matcher(line);
        while (numbers.find()) {
            long n = Long.parseLong(numbers.group());
            for (long other : new long[] {n - 1, n + 1}) {
                all.add(new Mutant(number, line, line.substring(0, numbers.start()) + other + line.substring(numbers.end())));
            }
        }
        // not where it is told itself
        Matcher limits = Pattern.compile("\\bMOST_\\w+(?! =)\\b").matcher(line);
        while (limits.find()) {
            for (String off : new String[] {" - 1)", " + 1)"}) {
                all.add(new Mutant(number, line, line.substring(0, limits.start()) + "(" + limits.group() + off + line.substring(limits.end())));
            }
        }
        Matcher test = Pattern.compile("if \\((.*)\\) \\{$").matcher(line);
        if (test.find()) {
            for (String answer : new String[] {"true", "false"}) {
                all.add(new Mutant(number, line, line.substring(0, test.start(1)) + answer + line.substring(test.end(1))));
            }
        }
        boolean statement = line.strip().matches("[\\w.\\[\\]]+(\\(.*\\)| [-+|&]?= .*|\\+\\+|--);");
        if (statement) all.add(new Mutant(number, line, ";"));
    }

    private static String judge(List<String> lines, Mutant mutant, Path own, String[] tests) throws IOException, InterruptedException {
        Files.createDirectories(own);
        List<String> copy = new ArrayList<>(lines);
        copy.set(mutant.line - 1, mutant.is);
        Path source = own.resolve("RepeaterWires.java");
        Files.write(source, copy);
        JavaCompiler compiler = ToolProvider.getSystemJavaCompiler();
        try (StandardJavaFileManager files = compiler.getStandardFileManager(null, null, null)) {
            boolean compiled = compiler.getTask(new StringWriter(), files, null, List.of("-d", own.toString()), null,
                    files.getJavaFileObjects(source)).call();
            if (!compiled) return "does not compile";
        }
        List<String> command = new ArrayList<>(List.of("java", "-XX:TieredStopAtLevel=1", "-Xmx256m", "-cp",
                own + File.pathSeparator + System.getProperty("java.class.path"), "Mutants", "run"));
        command.addAll(List.of(tests));
        Process process = new ProcessBuilder(command).redirectErrorStream(true)
                .redirectOutput(ProcessBuilder.Redirect.DISCARD).start();
        // one that does not end is found, too
        if (!process.waitFor(SECONDS, TimeUnit.SECONDS)) {
            process.destroyForcibly();
            return "found";
        }
        return process.exitValue() == 0 ? "left" : "found";
    }
}
