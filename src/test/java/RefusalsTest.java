import java.lang.reflect.Field;
import java.lang.reflect.InvocationTargetException;
import java.lang.reflect.Method;
import java.lang.reflect.Modifier;
import java.util.ArrayList;
import java.util.Arrays;
import java.util.Comparator;
import java.util.HashMap;
import java.util.List;
import java.util.Map;
import java.util.Random;
import java.util.Set;

/** Calls with any arguments: none throws, and one that is refused changes nothing. */
public final class RefusalsTest {
    private static final int RUNS = 150, CALLS = 400;
    private static final int[] EDGES = {Integer.MIN_VALUE, Integer.MAX_VALUE, Integer.MAX_VALUE - 1, -100, -2, 3599, 3600,
        4095, 4096, 400, 401, 359, 360, 999, 1000, 39, 40, 41, 100};
    private static final String[] TEXTS = {"say 1 land;kind charter;roll 1;", "kind writ;say 2 person;seals 1;due 9;fee 3;",
        "say 4;wants most 2(1 2 3) unless fact 4;", "say 1;wants ((((((", "fee 1;"};

    private static final int WRONG = 2;
    private static final Map<Class<?>, List<Field>> FIELDS = new HashMap<>();
    private static final Set<String> FOR_QUERIES = Set.of("reader", "anyTable", "table", "cost");

    private final Random random;
    private final WritHouse x = new WritHouse();
    private final List<Method> methods = new ArrayList<>();

    private RefusalsTest(long seed) {
        random = new Random(seed);
        for (Method m : WritHouse.class.getDeclaredMethods()) if (Modifier.isPublic(m.getModifiers())) methods.add(m);
        methods.sort(Comparator.comparing(Method::getName));
    }

    public static void main(String[] args) throws Exception {
        int wrong = 0, refused = 0;
        for (int seed = 0; seed < RUNS && wrong < 5; seed++) {
            RefusalsTest run = new RefusalsTest(seed);
            for (int i = 0; i < CALLS; i++) {
                int answer = run.step();
                if (answer == WRONG) {
                    wrong++;
                    break;
                }
                refused += answer;
            }
        }
        System.out.println("RefusalsTest: " + refused + " calls were refused, " + wrong + " runs went wrong");
        if (wrong > 0 || refused < 10000) System.exit(1);
    }

    private int number() {
        if (random.nextInt(8) == 0) return random.nextInt(4) == 0 ? random.nextInt() : EDGES[random.nextInt(EDGES.length)];
        return random.nextInt(random.nextInt(4) == 0 ? 50 : 5) - (random.nextInt(6) == 0 ? 1 : 0);
    }

    /** 1 if the call was refused and nothing changed, 0 if it was not, or WRONG. */
    private int step() throws IllegalAccessException {
        if (random.nextInt(25) == 0) Due.feed(x, TEXTS[random.nextInt(TEXTS.length)]);
        Method m = methods.get(random.nextInt(methods.size()));
        Object[] args = new Object[m.getParameterCount()];
        StringBuilder call = new StringBuilder(m.getName());
        for (int i = 0; i < args.length; i++) {
            Class<?> type = m.getParameterTypes()[i];
            args[i] = type == boolean.class ? (Object) random.nextBoolean() : type == long.class ? (Object) random.nextLong() : (Object) number();
            call.append(' ').append(args[i]);
        }
        long before = look(x);
        int answer;
        try {
            answer = (Integer) m.invoke(x, args);
        } catch (InvocationTargetException e) {
            System.out.println(call + " has thrown " + e.getCause());
            return WRONG;
        }
        // these answer below 0 when they are not refused, too
        boolean mayBe = m.getName().equals("act") || m.getName().equals("slip") && answer == -1 || m.getName().equals("alterRow");
        if (answer >= 0 || mayBe) return 0;
        if (look(x) == before) return 1;
        System.out.println(call + " was refused with " + answer + ", but has changed something");
        return WRONG;
    }

    /** All that an object holds as one number, but the tape, and what a query may write for itself. */
    private static long look(Object o) throws IllegalAccessException {
        long seen = 17;
        if (o instanceof int[] numbers) return Arrays.hashCode(numbers);
        if (o instanceof boolean[] flags) return Arrays.hashCode(flags);
        if (o instanceof Object[] rows) {
            for (Object row : rows) seen = 31 * seen + look(row);
            return seen;
        }
        for (Field f : FIELDS.computeIfAbsent(o.getClass(), RefusalsTest::fieldsOf)) {
            Object held = f.get(o);
            seen = 1000003 * seen + (f.getType().isPrimitive() ? held.hashCode() : look(held));
        }
        return seen;
    }

    private static List<Field> fieldsOf(Class<?> c) {
        List<Field> fields = new ArrayList<>();
        for (Field f : c.getDeclaredFields()) {
            if (Modifier.isStatic(f.getModifiers()) || FOR_QUERIES.contains(f.getName())) continue;
            f.setAccessible(true);
            fields.add(f);
        }
        return fields;
    }
}
