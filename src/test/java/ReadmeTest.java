import java.io.IOException;
import java.net.URL;
import java.net.URLClassLoader;
import java.nio.file.Files;
import java.nio.file.Path;
import java.util.ArrayList;
import java.util.List;
import java.util.function.IntConsumer;
import java.util.regex.Matcher;
import java.util.regex.Pattern;
import java.util.stream.Collectors;
import javax.tools.ToolProvider;

/** The examples of the README, compiled and run, and its table of refusals. Runs where README.md lies. */
public final class ReadmeTest {
    private static final String CLASS = "ReadmeExamples";
    private static final Pattern BLOCK = Pattern.compile("(?s)```java\n(.*?)```");
    private static final Pattern EXAMPLE = Pattern.compile("(\\w.*\\)); +// (-?\\d+|[A-Z]+): .*");
    private static final Pattern CALL = Pattern.compile("(?m)^`(?:int )?(\\w+)\\(");
    private static final Pattern NEVER = Pattern.compile("(?m)^(.*) are never refused\\.$");
    private static final Pattern REFUSAL = Pattern.compile("\\b(UNKNOWN|OUTSIDE|NOT|FULL)\\b");
    private static final Check check = new Check("ReadmeTest");

    private static final List<String> calls = new ArrayList<>();
    private static final List<Integer> due = new ArrayList<>();

    public static void main(String[] args) throws Exception {
        String readme = Files.readString(Path.of("README.md"));
        examples(readme);
        refusals(readme);
        check.end();
    }

    /** All examples are one run: each that has an answer behind it is asked in its turn. */
    private static void examples(String readme) throws Exception {
        List<Integer> answers = new ArrayList<>();
        Path place = Files.createTempDirectory(CLASS);
        try {
            run(place, classOf(readme), answers::add);
        } finally {
            for (String end : List.of(".java", ".class", "")) {
                Files.deleteIfExists(end.isEmpty() ? place : place.resolve(CLASS + end));
            }
        }
        check.holds("the README has examples", !calls.isEmpty());
        check.due("answers", answers.size(), calls.size());
        for (int i = 0; i < Math.min(answers.size(), calls.size()); i++) {
            check.due(calls.get(i), answers.get(i), due.get(i));
        }
    }

    /** A class of the blocks: those that begin with static are its methods, all others one method more. */
    private static String classOf(String readme) throws ReflectiveOperationException {
        StringBuilder methods = new StringBuilder();
        StringBuilder statements = new StringBuilder();
        Matcher block = BLOCK.matcher(readme);
        while (block.find()) {
            if (block.group(1).startsWith("static ")) {
                methods.append(block.group(1));
            } else {
                for (String line : block.group(1).split("\n")) {
                    statements.append(statementOf(line)).append('\n');
                }
            }
        }
        return "public final class " + CLASS + " {\n" + methods
                + "public static void run(java.util.function.IntConsumer answer) {\n" + statements + "}\n}\n";
    }

    private static String statementOf(String line) throws ReflectiveOperationException {
        Matcher example = EXAMPLE.matcher(line);
        if (!example.matches()) {
            check.holds("an answer stands behind " + line, line.equals("ShutWays x = new ShutWays();"));
            return line;
        }
        String answer = example.group(2);
        boolean isName = Character.isUpperCase(answer.charAt(0));
        calls.add(example.group(1));
        due.add(isName ? ShutWays.class.getField(answer).getInt(null) : Integer.parseInt(answer));
        return "answer.accept(" + example.group(1) + ");";
    }

    private static void run(Path place, String text, IntConsumer answer) throws Exception {
        Path source = Files.writeString(place.resolve(CLASS + ".java"), text);
        int failed = ToolProvider.getSystemJavaCompiler().run(null, null, null, "-cp", System.getProperty("java.class.path"),
                "-d", place.toString(), source.toString());
        check.due("javac of the examples", failed, 0);
        if (failed == 0) {
            try (URLClassLoader loader = new URLClassLoader(new URL[] {place.toUri().toURL()})) {
                loader.loadClass(CLASS).getMethod("run", IntConsumer.class).invoke(null, answer);
            }
        }
    }

    /** The row of a call names the same refusals in the same order as its promise; without any it is never refused. */
    private static void refusals(String readme) throws IOException {
        Matcher never = NEVER.matcher(readme);
        check.holds("the README tells what is never refused", never.find());
        for (String promise : new Document().promises()) {
            Matcher call = CALL.matcher(promise);
            check.holds("a promise begins with its call: " + promise, call.find());
            String name = call.group(1);
            Matcher row = Pattern.compile("(?m)^\\| `" + name + "` \\| (.*) \\|$").matcher(readme);
            String told = row.find() ? named(row.group(1)) : "";
            check.holds("refusals of " + name + ": " + told + ", due are " + named(promise), told.equals(named(promise)));
            boolean isNever = told.isEmpty() && !name.equals("ShutWays");
            check.holds(name + " is told to be never refused, if it is", never.group(1).contains("`" + name + "`") == isNever);
        }
    }

    private static String named(String text) {
        return REFUSAL.matcher(text).results().map(found -> found.group()).collect(Collectors.joining(" "));
    }
}
