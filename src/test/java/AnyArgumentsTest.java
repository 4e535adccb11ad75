import java.lang.reflect.InvocationTargetException;
import java.lang.reflect.Method;
import java.util.ArrayList;
import java.util.Arrays;
import java.util.Comparator;
import java.util.List;
import java.util.Random;

/**
 * Every call of the face with every edge of an int as its arguments, in states made by chance from fixed seeds: none
 * throws, and each answers what the Model answers. ModelTest makes runs of sense; these are runs at the edges.
 */
public final class AnyArgumentsTest {
    private static final int RUNS = 400, CALLS = 512;
    private static final int[] EDGES = {Integer.MIN_VALUE, Integer.MIN_VALUE + 1, -1004, -2, -1, 0, 0, 0, 1, 1, 1, 2, 2, 3,
        4, 5, 6, 8, 9, 10, 11, 12, 13, 19, 20, 21, 29, 30, 31, 39, 40, 41, 119, 120, 121, 999, 1000, 1001, 2999, 3000,
        Integer.MAX_VALUE - 1, Integer.MAX_VALUE};
    private static final String[] TEXTS = {"", "a", "7", "-12", "?1", "c(?1,?2)", "c(?1,?1)", "d(?1,?2)", "..?1", "!7",
        "c(1,b(2))", "d(a,c(1,b(-5)))", "g(1,2,3,4)", "f(?1,?2,?3,..?4)", "?:4", "?:1[1~2]", "c(", "b", "a(", "z",
        "g(d(1,2),d(2,1),e(1,2,3),f(1,2,3,4))", "..d(?1,..?2)", "e(..?1,..?2,..?3)", "e(1,e(1,2,3),e(4,5,6))"};

    private static final List<String> TAKING = List.of("pattern", "tree", "change", "drop");

    private static int wrong = 0;

    private AnyArgumentsTest() {
    }

    public static void main(String[] args) throws ReflectiveOperationException {
        List<Method> calls = new ArrayList<>();
        for (Method m : RuleNet.class.getDeclaredMethods()) {
            if (java.lang.reflect.Modifier.isPublic(m.getModifiers())) {
                calls.add(m);
            }
        }
        // Reflection tells methods in no fixed order.
        calls.sort(Comparator.comparing(Method::getName));
        long answers = 0;
        for (int seed = 1; seed <= RUNS && wrong < 5; seed++) {
            answers += run(new Random(seed), seed, calls);
        }
        System.out.println(calls.size() + " calls, " + answers + " answers, " + wrong + " runs not as due");
        if (wrong != 0 || calls.size() != 29) {
            System.exit(1);
        }
    }

    private static int run(Random chance, int seed, List<Method> calls) throws ReflectiveOperationException {
        RuleNet x = new RuleNet();
        Model m = new Model();
        int made = 0;
        if (seed % 10 != 0) {
            made = setUp(x, m);
        }
        while (made < CALLS - 10) {
            if (chance.nextInt(12) == 0) {
                made += put(x, m, TEXTS[chance.nextInt(TEXTS.length)]);
                Method taking = calls.get(indexOf(calls, chance));
                Object[] arguments = arguments(taking, chance);
                made++;
                if (!same(x, m, taking, arguments, seed)) {
                    return made;
                }
            }
            Method call = calls.get(chance.nextInt(calls.size()));
            // What was ASKED would else be gone too soon.
            if (TAKING.contains(call.getName()) && chance.nextInt(8) > 0) {
                call = RuleNet.class.getMethod("ask");
            }
            made++;
            if (!same(x, m, call, arguments(call, chance), seed)) {
                return made;
            }
        }
        return made;
    }

    /** One of those calls that take THE TAPE. */
    private static int indexOf(List<Method> calls, Random chance) {
        String name = new String[] {"pattern", "pattern", "tree", "change"}[chance.nextInt(4)];
        for (int i = 0; i < calls.size(); i++) {
            if (calls.get(i).getName().equals(name)) {
                return i;
            }
        }
        throw new IllegalStateException(name);
    }

    /** The KINDS and HEADS of Probe.usual(). */
    private static int setUp(RuleNet x, Model m) {
        int[] under = {0, 1, 0, 3};
        for (int kind : under) {
            x.kind(kind);
            m.kind(kind);
        }
        int[][] heads = {{0, 0, 0}, {1, 1, 0}, {2, 2, 0}, {3, 2, 1}, {0, 3, 1}, {0, 4, 1}, {1, 4, 0}, {0, 0, 1}};
        for (int[] head : heads) {
            x.head(head[0], head[1], head[2] == 1);
            m.head(head[0], head[1], head[2] == 1);
        }
        return under.length + heads.length;
    }

    private static int put(RuleNet x, Model m, String text) {
        x.cut(0);
        m.cut(0);
        int made = 1;
        for (int i = 0; i < text.length(); i += 20, made++) {
            int[] five = new int[5];
            for (int k = 0; k < 20; k++) {
                five[k / 4] = five[k / 4] << 8 | (i + k < text.length() ? text.charAt(i + k) : ' ');
            }
            x.feed(five[0], five[1], five[2], five[3], five[4]);
            m.feed(five);
        }
        return made;
    }

    private static Object[] arguments(Method call, Random chance) {
        Object[] arguments = new Object[call.getParameterCount()];
        for (int i = 0; i < arguments.length; i++) {
            if (call.getParameterTypes()[i] == boolean.class) {
                arguments[i] = chance.nextBoolean();
            } else {
                arguments[i] = chance.nextInt(5) < 3 ? chance.nextInt(5) : EDGES[chance.nextInt(EDGES.length)];
            }
        }
        // Mostly a RANK that is taken, so that there is something to ask.
        if (call.getName().equals("pattern") && chance.nextInt(3) > 0) {
            arguments[0] = chance.nextInt(3) * 500;
        }
        return arguments;
    }

    private static boolean same(RuleNet x, Model m, Method call, Object[] arguments, int seed)
        throws ReflectiveOperationException {
        String what = "seed " + seed + ": " + call.getName() + Arrays.toString(arguments);
        long due = model(m, call, arguments);
        try {
            long got = ((Number) call.invoke(x, arguments)).longValue();
            if (got == due) {
                return true;
            }
            System.out.println(what + " answered " + got + ", due is " + due);
        } catch (InvocationTargetException thrown) {
            System.out.println(what + " threw " + thrown.getCause() + ", due is " + due);
        }
        wrong++;
        return false;
    }

    private static long model(Model m, Method call, Object[] arguments) throws ReflectiveOperationException {
        if (call.getName().equals("feed")) {
            return m.feed(Arrays.stream(arguments).mapToInt(a -> (Integer) a).toArray());
        }
        Method like = Model.class.getDeclaredMethod(call.getName(), call.getParameterTypes());
        return ((Number) like.invoke(m, arguments)).longValue();
    }
}
