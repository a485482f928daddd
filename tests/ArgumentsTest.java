import java.lang.reflect.Method;
import java.util.ArrayList;
import java.util.Arrays;
import java.util.Comparator;
import java.util.List;
import java.util.Set;

/**
 * Every call with every mix of arguments at and just beyond the bounds that the document names,
 * on tables that are empty, small, stuck and full, each answer compared with the oracle's.
 */
public final class ArgumentsTest {
    private static final Check CHECK = new Check("ArgumentsTest");

    private static final int[] INTS = {Integer.MIN_VALUE, -10000, -9999, -2, -1, 0, 1, 2, 3, 4, 6, 7, 8, 9, 15, 99, 100,
        199, 200, 201, 9999, 10000, Integer.MAX_VALUE};
    private static final long[] LONGS = {Long.MIN_VALUE, Long.MIN_VALUE + 1, -69994, -69993, -1, 0, 1, 5, 69992, 69993,
        1L << 32, Long.MAX_VALUE - 1, Long.MAX_VALUE};
    /* Few calls are left on an object that has laid out and looked at its table. */
    private static final int CALLS = 400;

    /* These say nothing of their arguments' bounds, or are told by texts in other tests. */
    private static final Set<String> LEFT_OUT = Set.of("feed", "table", "undo");

    private static String text;
    private static NextBest x;
    private static Oracle o;
    private static int calls;

    public static void main(String[] args) throws Exception {
        List<Method> methods = new ArrayList<>();
        for (Method method : NextBest.class.getDeclaredMethods()) {
            if (java.lang.reflect.Modifier.isPublic(method.getModifiers()) && !LEFT_OUT.contains(method.getName())) {
                methods.add(method);
            }
        }
        methods.sort(Comparator.comparing(Method::getName));
        String never = "x,".repeat(7) + "x";
        String[] texts = {"", "jobs 8;", "jobs 1;worker 7;", Tables.SQUARE, Tables.WIDE, Tables.STUCK,
            "jobs 2;worker 1,2;worker 3,x;worker 0,0;",
            "jobs 4;worker 9999,-9999,0,x;worker -9999,9999,0,1;worker 9999,9999,-9999,-9999;",
            "jobs 8;worker 1," + never.substring(2) + ";worker x,2," + never.substring(4) + ";worker x,x,3,4,x,x,x,x;"
                + "worker x,x,5,6,x,x,x,x;worker x,x,x,x,7,8,9,x;worker x,x,x,x,9,8,7,x;worker x,x,x,x,1,2,3,4;"};
        for (String one : texts) {
            text = one;
            for (Method method : methods) {
                startAnew();
                allArguments(method, Oracle.class.getMethod(method.getName(), method.getParameterTypes()));
            }
        }
        CHECK.finish();
    }

    private static void startAnew() {
        x = new NextBest();
        o = new Oracle();
        Check.tell(x, text);
        for (int i = 0; i < text.length(); i += 20) {
            o.feed(Check.numbers(text, i));
        }
        o.end(text.length());
        CHECK.due("table of '" + text + "'", o.table(), x.count(0));
        x.feed(0, 0, 0, 0, 0);
        o.feed(new int[5]);
        calls = 0;
    }

    private static void allArguments(Method method, Method twin) throws Exception {
        Class<?>[] types = method.getParameterTypes();
        int[] at = new int[types.length];
        boolean more = true;
        while (more) {
            Object[] args = new Object[types.length];
            for (int i = 0; i < types.length; i++) {
                args[i] = types[i] == int.class ? (Object) INTS[at[i]] : (Object) LONGS[at[i]];
            }
            one(method, twin, args);
            more = false;
            for (int i = 0; i < types.length && !more; i++) {
                at[i]++;
                more = at[i] < (types[i] == int.class ? INTS.length : LONGS.length);
                at[i] = more ? at[i] : 0;
            }
        }
    }

    private static void one(Method method, Method twin, Object[] args) throws Exception {
        String call = method.getName() + Arrays.toString(args) + " on '" + text + "'";
        int acts = o.count(4);
        CHECK.due(call, ((Number) method.invoke(x, args)).longValue(), ((Number) twin.invoke(o, args)).longValue());
        calls++;
        if (o.count(4) != acts || o.count(5) != 20) {
            for (int what = 0; what < 6; what++) {
                CHECK.due("count(" + what + ") behind " + call, x.count(what), o.count(what));
            }
            for (int i = 0; i < o.count(0) * o.count(1); i++) {
                int worker = i / o.count(1);
                int job = i % o.count(1);
                CHECK.due("cost(" + worker + ", " + job + ") behind " + call, x.cost(worker, job), o.cost(worker, job));
            }
            startAnew();
        } else if (calls >= CALLS) {
            CHECK.due("acts behind " + call, x.count(4), acts);
            startAnew();
        }
    }
}
