import java.io.IOException;
import java.lang.reflect.Field;
import java.lang.reflect.Method;
import java.lang.reflect.Modifier;
import java.nio.file.Files;
import java.nio.file.Path;
import java.util.HashSet;
import java.util.Set;
import java.util.TreeSet;
import java.util.regex.Matcher;
import java.util.regex.Pattern;

/** The face of the document, and those rules of LANGUAGE.md that can be seen in the text or the classes. */
public final class LanguageTest {
    private static final String[] FACE = {
        "int row(int, int, int)", "int set(int, int, long)", "int copy(int, int, int, int, int)",
        "long element(int, int)", "int show(int, int)", "int holds(int)", "int says(int, int)",
        "int strip(int, int, int, int)", "int stripOf(int, int)", "int turn(int, int)", "int read(int)",
        "int fault()", "long creases(int)", "int crease(int, long)", "int way(int, long)",
        "long place(int, long, int)", "int passed(int, int, int, int)", "int most(int, int)",
        "int twice(int, int)", "int cover(int, int)", "int when(int, int, int, int)",
        "int near(int, int, int, int, int, int)", "int four(int, int)", "int words(int, int, int)",
        "int wrong(int, int)", "int mend(int, int)", "int judge(int, int, int)",
        "int ends(int, int, int, int)", "int piece(int, int, int, int)", "int can(int, int)",
        "int orders(int)", "int order(int, int, int)", "int page(int, int)", "int drop()",
        "int act(int, int, int)", "int trace(int)", "int image()", "int restore()", "int status(int)"};

    public static void main(String[] args) throws IOException {
        face();
        insides();
        String text = Files.readString(Path.of(args[0]));
        for (char sign : text.toCharArray()) {
            Check.holds("sign " + (int) sign, sign == '\n' || sign >= ' ' && sign < 127);
        }
        String code = withoutComments(text);
        words(code);
        calls(code);
        methods(code);
        Check.report();
    }

    private static String signature(Method method) {
        StringBuilder line = new StringBuilder(method.getReturnType().getName());
        line.append(' ').append(method.getName()).append('(');
        for (Class<?> type : method.getParameterTypes()) {
            line.append(line.charAt(line.length() - 1) == '(' ? "" : ", ").append(type.getName());
        }
        return line.append(')').toString();
    }

    private static void face() {
        Set<String> due = new TreeSet<>(Set.of(FACE));
        Set<String> got = new TreeSet<>();
        for (Method method : FoldedInHalf.class.getDeclaredMethods()) {
            if (!Modifier.isPrivate(method.getModifiers()) && !method.isSynthetic()) {
                Check.holds(method + " is public", Modifier.isPublic(method.getModifiers()));
                Check.holds(method + " is of an object", !Modifier.isStatic(method.getModifiers()));
                got.add(signature(method));
            }
        }
        Check.holds("the methods are those of the face: " + got, got.equals(due));
        Check.due("constructors", FoldedInHalf.class.getDeclaredConstructors().length, 1);
        Check.due("public constructors", FoldedInHalf.class.getConstructors().length, 1);
        for (Field field : FoldedInHalf.class.getDeclaredFields()) {
            boolean isNone = field.getName().equals("NONE");
            Check.holds(field + " is seen or not", isNone == !Modifier.isPrivate(field.getModifiers()));
        }
        Check.holds("the class is final", Modifier.isFinal(FoldedInHalf.class.getModifiers()));
        Check.holds("without a package", FoldedInHalf.class.getPackageName().isEmpty());
    }

    private static void insides() {
        Set<String> names = new HashSet<>();
        for (String line : FACE) {
            names.add(line.substring(line.indexOf(' ') + 1, line.indexOf('(')));
        }
        hasFewFields(FoldedInHalf.class);
        Class<?>[] inside = FoldedInHalf.class.getDeclaredClasses();
        Check.holds("some twelve classes", inside.length + 1 <= 12);
        for (Class<?> one : inside) {
            int modifiers = one.getModifiers();
            Check.holds(one + " is static", Modifier.isStatic(modifiers));
            Check.holds(one + " is not seen", !Modifier.isPublic(modifiers) && !Modifier.isProtected(modifiers));
            hasFewFields(one);
            for (Method method : one.getDeclaredMethods()) {
                Check.holds(method + " has a name of its own", !names.contains(method.getName()));
            }
            Check.due("classes inside " + one, one.getDeclaredClasses().length, 0);
        }
        for (Method method : FoldedInHalf.class.getDeclaredMethods()) {
            boolean shared = Modifier.isPrivate(method.getModifiers()) && names.contains(method.getName());
            Check.holds(method + " has a name of its own", !shared);
        }
    }

    private static void hasFewFields(Class<?> one) {
        int count = 0;
        for (Field field : one.getDeclaredFields()) {
            boolean isStatic = Modifier.isStatic(field.getModifiers());
            Check.holds(field + " is final if static", !isStatic || Modifier.isFinal(field.getModifiers()));
            count += isStatic ? 0 : 1;
        }
        Check.holds(one + " has some twenty fields", count <= 20);
    }

    private static String withoutComments(String text) {
        String bare = Pattern.compile("/\\*.*?\\*/", Pattern.DOTALL).matcher(text).replaceAll("");
        return bare.replaceAll("//[^\n]*", "");
    }

    private static void words(String code) {
        String[] forbidden = {"throw", "throws", "try", "catch", "finally", "synchronized", "assert", "record",
            "volatile", "native", "equals", "hashCode", "toString", "Object", "Exception", "Error", "Thread",
            "Random", "var", "yield", "float", "double", "String.format", "Exact"};
        for (String word : forbidden) {
            Check.holds("no " + word, !Pattern.compile("\\b" + Pattern.quote(word) + "\\b").matcher(code).find());
        }
        Check.holds("no ...Exact", !code.contains("Exact"));
        Check.holds("no lambda", !code.contains("->"));
        Check.holds("no method reference", !code.contains("::"));
        Check.holds("no annotation", !code.contains("@"));
        Check.holds("no endless loop", !code.contains("for (;;)") && !code.contains("while (true)"));
        Check.holds("no text joined by +", !Pattern.compile("\"\\s*\\+|\\+\\s*\"").matcher(code).find());
        Check.holds("no initialiser block", !Pattern.compile("static\\s*\\{").matcher(code).find());
        Check.holds("no array of arrays", !code.contains("[]["));
    }

    private static void calls(String code) {
        Matcher imports = Pattern.compile("import ([^;]*);").matcher(code);
        while (imports.find()) {
            Check.holds("import " + imports.group(1), imports.group(1).equals("java.util.Arrays"));
        }
        Set<String> allowed = Set.of("System.arraycopy", "Arrays.fill", "Math.max", "Math.min", "Math.abs",
            "Integer.bitCount", "Long.bitCount");
        Matcher uses = Pattern.compile("\\b[A-Z][a-z]\\w*\\.\\w+").matcher(code);
        while (uses.find()) {
            boolean isImport = uses.start() > 5 && code.startsWith("util.", uses.start() - 5);
            Check.holds("use of " + uses.group(), isImport || allowed.contains(uses.group()));
        }
    }

    /** Methods of the outer class stand 4 blanks in, those of classes inside 8. */
    private static void methods(String code) {
        Pattern head = Pattern.compile("^( {4}| {8})(?=\\S)[\\w ]+(\\[\\])? ?\\w+\\(([^)]*)\\) \\{$");
        String[] lines = code.split("\n");
        int count = 0;
        for (int i = 0; i < lines.length; i++) {
            Matcher found = head.matcher(lines[i]);
            if (!found.matches() || lines[i].contains(" else ") || lines[i].trim().startsWith("if ")) {
                continue;
            }
            count++;
            int end = i;
            while (end < lines.length - 1 && !lines[end].equals(found.group(1) + "}")) {
                end++;
            }
            Check.holds(lines[i].trim() + " is short", end - i < 60);
            Check.holds(lines[i].trim() + " takes few", found.group(3).split(",").length <= 7);
        }
        Check.holds("methods were found: " + count, count > 100);
    }
}
