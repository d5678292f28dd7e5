import java.io.PrintWriter;
import java.io.StringWriter;
import java.util.ArrayList;
import java.util.HashMap;
import java.util.HashSet;
import java.util.List;
import java.util.Map;
import java.util.Set;
import java.util.TreeSet;
import java.util.regex.Matcher;
import java.util.regex.Pattern;
import java.util.spi.ToolProvider;

/** How deep the calls of the class go, and which it makes, as its byte code has them (rules 4, 8, 11, 12). */
public final class CallsTest {
    private static final int MOST_DEEP = 8;
    private static final Pattern CALL = Pattern.compile(
        "(invoke\\w+) .*// (?:Interface)?Method (?:([\\w/$]+)\\.)?\"?([\\w<>$]+)\"?:(\\S+)$");
    private static final Pattern HEAD = Pattern.compile("^  [^ ].*\\(.*\\);$");
    private static final Set<String> LIBRARY = Set.of(
        "java/lang/Object.<init>", "java/lang/Math.max", "java/lang/Math.min", "java/lang/Math.abs",
        "java/lang/Integer.bitCount", "java/lang/Long.bitCount", "java/lang/String.length",
        "java/lang/String.charAt", "java/util/Arrays.fill", "java/lang/System.arraycopy");

    /** For each class its methods, each by its name and types, with the calls in it. */
    private static final Map<String, Map<String, List<String[]>>> CLASSES = new HashMap<>();
    private static final Map<String, String> ABOVE = new HashMap<>();
    private static final Set<String> RECURSIVE = new TreeSet<>();
    private static final Map<String, Integer> DEEP = new HashMap<>();

    public static void main(String[] args) {
        if (ToolProvider.findFirst("javap").isEmpty()) {
            System.out.println("there is no javap here: no call was looked at");
            return;
        }
        readClass(FoldedInHalf.class);
        for (Class<?> one : FoldedInHalf.class.getDeclaredClasses()) {
            readClass(one);
        }
        for (String of : new ArrayList<>(CLASSES.keySet())) {
            for (String method : CLASSES.get(of).keySet()) {
                libraryOnly(of, method);
                constructorsAlone(of, method);
                int deep = deep(of, method, new HashSet<>());
                Check.holds(of + "." + method + " goes " + deep + " deep", deep <= MOST_DEEP);
            }
        }
        Check.holds("one method calls itself: " + RECURSIVE, RECURSIVE.size() == 1);
        Check.holds("the acts were found", deep("FoldedInHalf", "act:(III)I", new HashSet<>()) > 5);
        Check.report();
    }

    private static void readClass(Class<?> one) {
        StringWriter out = new StringWriter();
        ToolProvider javap = ToolProvider.findFirst("javap").orElseThrow();
        String path = one.getResource(one.getName() + ".class").getPath();
        PrintWriter writer = new PrintWriter(out);
        Check.due("javap " + path, javap.run(writer, writer, "-p", "-c", "-s", path), 0);
        Map<String, List<String[]>> methods = new HashMap<>();
        List<String[]> calls = new ArrayList<>();
        String name = "";
        for (String line : out.toString().split("\\R")) {
            if (HEAD.matcher(line).matches()) {
                String ahead = line.substring(0, line.indexOf('('));
                name = ahead.substring(ahead.lastIndexOf(' ') + 1);
                name = name.equals(one.getName()) ? "<init>" : name;
                calls = new ArrayList<>();
            } else if (line.startsWith("    descriptor: (")) {
                methods.put(name + ":" + line.substring(line.indexOf('(')), calls);
            } else if (line.contains(": invoke")) {
                Matcher call = CALL.matcher(line);
                Check.holds("a call that is understood: " + line.trim(), call.find());
                String of = call.group(2) == null ? one.getName() : call.group(2);
                calls.add(new String[] {call.group(1), of, call.group(3) + ":" + call.group(4)});
            }
        }
        CLASSES.put(one.getName(), methods);
        ABOVE.put(one.getName(), one.getSuperclass().getName());
    }

    private static void libraryOnly(String of, String method) {
        for (String[] call : CLASSES.get(of).get(method)) {
            String name = call[1] + "." + call[2].substring(0, call[2].indexOf(':'));
            Check.holds(name + " may be called", CLASSES.containsKey(call[1]) || LIBRARY.contains(name));
        }
    }

    private static void constructorsAlone(String of, String method) {
        for (String[] call : CLASSES.get(of).get(method)) {
            boolean isConstructor = call[2].startsWith("<init>");
            Check.holds(of + "." + method + " calls " + call[2], isConstructor || !method.startsWith("<init>"));
        }
    }

    /** The class, from this one upward, whose body of the method runs; null: one of the library. */
    private static String bodyOf(String of, String method) {
        for (String at = of; CLASSES.containsKey(at); at = ABOVE.get(at)) {
            if (CLASSES.get(at).containsKey(method)) {
                return at;
            }
        }
        return null;
    }

    private static boolean isUnder(String of, String above) {
        for (String at = of; at != null; at = ABOVE.get(at)) {
            if (at.equals(above)) {
                return true;
            }
        }
        return false;
    }

    private static Set<String> bodies(String[] call) {
        Set<String> bodies = new HashSet<>();
        for (String of : CLASSES.keySet()) {
            boolean may = call[0].equals("invokevirtual") ? isUnder(of, call[1]) : of.equals(call[1]);
            String body = may ? bodyOf(of, call[2]) : null;
            if (body != null) {
                bodies.add(body);
            }
        }
        return bodies;
    }

    /** How many calls stand open at most, this one counted; one that stands open already adds none. */
    private static int deep(String of, String method, Set<String> open) {
        String key = of + "." + method;
        if (DEEP.containsKey(key)) {
            return DEEP.get(key);
        }
        if (!open.add(key)) {
            RECURSIVE.add(key);
            return 0;
        }
        int most = 0;
        for (String[] call : CLASSES.get(of).get(method)) {
            Set<String> bodies = bodies(call);
            most = Math.max(most, bodies.isEmpty() ? 1 : 0);
            for (String body : bodies) {
                most = Math.max(most, deep(body, call[2], open));
            }
        }
        open.remove(key);
        DEEP.put(key, most + 1);
        return most + 1;
    }
}
