import java.io.IOException;
import java.lang.reflect.Method;
import java.lang.reflect.Modifier;
import java.net.URL;
import java.net.URLClassLoader;
import java.nio.file.Files;
import java.nio.file.Path;
import java.util.Comparator;
import java.util.Set;
import java.util.TreeSet;
import java.util.regex.Matcher;
import java.util.regex.Pattern;
import java.util.stream.Stream;
import javax.tools.ToolProvider;

/** What README.md says is so: its examples are compiled and run, its tables held against what there is. */
public final class ReadmeTest {
    private static final Pattern BLOCK = Pattern.compile("```java\n(.*?)```", Pattern.DOTALL);
    private static final Pattern ANSWER = Pattern.compile("(?m)^(x\\.\\w+\\(.*\\)); +// (-?\\d+)(?=:|$).*$");
    private static final Pattern NAME = Pattern.compile("`(\\w+)`");

    public static void main(String[] args) throws Exception {
        Path page = Path.of(args[2]);
        String text = Files.readString(page);
        examples(text);
        calls(text);
        refusals(text);
        tests(text, Path.of(args[0]).resolve("../../../test/java").normalize());
        Check.report();
    }

    /** All blocks, one behind the other, as one program that holds each answer against the one told. */
    private static void examples(String text) throws Exception {
        StringBuilder code = new StringBuilder();
        Matcher block = BLOCK.matcher(text);
        while (block.find()) {
            code.append(block.group(1));
        }
        Matcher answer = ANSWER.matcher(code);
        int answers = (int) answer.results().count();
        long bare = code.toString().lines().filter(line -> line.startsWith("x.")).count();
        Check.due("answers told in README.md", answers, bare);
        Check.holds("answers in README.md: " + answers, answers > 30);
        StringBuilder told = new StringBuilder();
        answer.reset();
        while (answer.find()) {
            answer.appendReplacement(told, Matcher.quoteReplacement(
                "answers.append(" + answer.group(1) + ").append('\\n');"));
        }
        answer.appendTail(told);
        String[] got = run("public final class ReadmeExamples { public static String answers() {\n"
            + "StringBuilder answers = new StringBuilder();\n" + told + "return answers.toString(); } }\n");
        answer.reset();
        for (int i = 0; answer.find(); i++) {
            long was = i < got.length && !got[i].isEmpty() ? Long.parseLong(got[i]) : Long.MIN_VALUE;
            Check.due("README.md: " + answer.group(1), was, Long.parseLong(answer.group(2)));
        }
    }

    /** What the examples answer, one behind the other. */
    private static String[] run(String program) throws Exception {
        Path folder = Files.createTempDirectory("readme");
        try {
            Path file = folder.resolve("ReadmeExamples.java");
            Files.writeString(file, program);
            int failed = ToolProvider.getSystemJavaCompiler().run(null, null, null, "-d", folder.toString(),
                "-cp", System.getProperty("java.class.path"), file.toString());
            Check.due("README.md compiles", failed, 0);
            return failed == 0 ? answers(folder).split("\n") : new String[0];
        } finally {
            delete(folder);
        }
    }

    private static String answers(Path folder) throws Exception {
        ClassLoader here = ReadmeTest.class.getClassLoader();
        try (URLClassLoader loader = new URLClassLoader(new URL[] {folder.toUri().toURL()}, here)) {
            return (String) loader.loadClass("ReadmeExamples").getMethod("answers").invoke(null);
        }
    }

    private static void delete(Path folder) throws IOException {
        try (Stream<Path> all = Files.walk(folder)) {
            for (Path path : (Iterable<Path>) all.sorted(Comparator.reverseOrder())::iterator) {
                Files.delete(path);
            }
        }
    }

    /** The lines of the table below a heading, without those of its head. */
    private static String table(String text, String heading) {
        int begin = text.indexOf(heading);
        Check.holds("the table " + heading, begin >= 0);
        int end = text.indexOf("\n\n", Math.max(begin, 0));
        String lines = text.substring(Math.max(begin, 0), end < 0 ? text.length() : end);
        return lines.substring(lines.indexOf("\n", lines.indexOf("---")) + 1);
    }

    private static Set<String> names(String text) {
        Set<String> names = new TreeSet<>();
        Matcher name = NAME.matcher(text);
        while (name.find()) {
            Check.holds(name.group(1) + " stands once", names.add(name.group(1)));
        }
        return names;
    }

    private static void calls(String text) {
        Set<String> due = new TreeSet<>();
        for (Method method : FoldedInHalf.class.getDeclaredMethods()) {
            if (Modifier.isPublic(method.getModifiers())) {
                due.add(method.getName());
            }
        }
        Set<String> got = names(table(text, "| What | Calls |"));
        Check.holds("README.md names every call: " + got, got.equals(due));
    }

    private static void refusals(String text) {
        FoldedInHalf x = new FoldedInHalf();
        String[] lines = table(text, "| Refusal | Why |").split("\n");
        Check.due("refusals in README.md", lines.length, 7);
        for (int i = 0; i < lines.length; i++) {
            Check.holds("refusal " + lines[i], lines[i].startsWith("| -" + (i + 1) + " |"));
        }
        x.row(0, 0, 64);
        Check.holds("-11", lines[0].contains("| " + x.when(0, 0, 0, 0) + " |"));
        Check.holds("..1", lines[0].contains("| " + x.place(0, 0, 0) + " |"));
        x.strip(6, 0, 0, 40);
        x.show(1, 0);
        Check.holds("-12", lines[1].contains("| " + x.words(1, 0, 0) + " |"));
        Check.holds("-13", lines[2].contains("| " + x.wrong(2, 0) + " |"));
        Check.holds("-14", lines[3].contains("| " + x.judge(0, 0, -1) + " |"));
        Check.holds("-15", lines[4].contains("| " + x.when(0, 0, 0, -1) + " |"));
        Check.holds("..5", lines[4].contains("| " + x.place(0, -1, 0) + " |"));
        Check.holds("-16", lines[5].contains("| " + x.words(0, 64, 0) + " |"));
        Check.holds("..7", lines[6].contains("| " + x.place(0, 100001, 0) + " |"));
        refusesNothing(text);
    }

    private static void refusesNothing(String text) {
        Check.holds("what refuses nothing", text.contains(
            "`element`, `holds`, `fault`, `act`, `trace`, `image` and `status` refuse nothing."));
        FoldedInHalf x = new FoldedInHalf();
        for (int number = -9; number < 99; number++) {
            x.element(number, number);
            x.holds(number);
            x.fault();
            x.act(number, number, number);
            x.trace(number);
            x.image();
            x.status(number);
        }
        for (int number = 11; number <= 17; number++) {
            Check.due("refusals, status(" + number + ")", x.status(number), 0);
        }
    }

    private static void tests(String text, Path folder) throws IOException {
        Set<String> due = new TreeSet<>();
        try (Stream<Path> files = Files.list(folder)) {
            for (Path file : (Iterable<Path>) files::iterator) {
                String name = file.getFileName().toString().replace(".java", "");
                if (name.endsWith("Test")) {
                    due.add(name);
                }
            }
        }
        Set<String> got = new TreeSet<>();
        for (String line : table(text, "| Test | What it tests |").strip().split("\n")) {
            got.add(line.substring(3, line.indexOf('`', 3)));
        }
        Check.holds("README.md names every test: " + got, got.equals(due));
    }
}
