import java.lang.reflect.Method;
import java.lang.reflect.Modifier;
import java.util.ArrayList;
import java.util.List;
import java.util.Random;

/** No call throws, whatever its arguments and the state, and the same calls give the same answers. */
public final class AnyArgumentsTest {
    private static final long[] EDGES = {
        Long.MIN_VALUE, Long.MAX_VALUE, Integer.MIN_VALUE, Integer.MAX_VALUE, -1L << 32, 1L << 32,
        1L << 40, (1L << 40) - 1, (1L << 40) + 1, 847288609443L, 847288609442L, -2, -1, 0, 1, 2, 3, 4,
        5, 6, 7, 8, 9, 10, 16, 40, 41, 63, 64, 100, 101, 160, 161, 1000, 4000, 4001, 100000, 999999};

    public static void main(String[] args) throws Exception {
        List<Method> methods = new ArrayList<>();
        for (Method method : FoldedInHalf.class.getDeclaredMethods()) {
            if (Modifier.isPublic(method.getModifiers())) {
                methods.add(method);
            }
        }
        methods.sort((p, q) -> p.getName().compareTo(q.getName()));
        for (int run = 0; run < 300; run++) {
            long once = run(methods, run);
            Check.due("run " + run + " again", run(methods, run), once);
        }
        Check.report();
    }

    private static long run(List<Method> methods, int seed) throws Exception {
        Random random = new Random(seed);
        FoldedInHalf x = new FoldedInHalf();
        fill(x, random);
        long answers = 0;
        for (int call = 0; call < 450; call++) {
            Method method = methods.get(random.nextInt(methods.size()));
            Object[] values = new Object[method.getParameterCount()];
            for (int i = 0; i < values.length; i++) {
                long v = random.nextInt(3) == 0 ? random.nextInt(8) : EDGES[random.nextInt(EDGES.length)];
                values[i] = method.getParameterTypes()[i] == int.class ? (Object) (int) v : (Object) v;
            }
            answers = answers * 31 + ((Number) method.invoke(x, values)).longValue();
        }
        return answers;
    }

    private static void fill(FoldedInHalf x, Random random) {
        for (int strip = 0; strip < random.nextInt(9); strip++) {
            StringBuilder word = new StringBuilder();
            for (int i = random.nextInt(25); i >= 0; i--) {
                word.append(random.nextBoolean() ? 'l' : 'r');
            }
            Check.strip(x, random.nextInt(7), random.nextInt(1000000), word.toString());
        }
        for (int s = 0; s < 4; s++) {
            x.row(s, random.nextInt(4), random.nextInt(161));
            for (int i = 0; i < 12; i++) {
                x.set(s, i, random.nextInt(3));
            }
        }
    }
}
