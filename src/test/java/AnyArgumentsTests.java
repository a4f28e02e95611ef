import java.lang.reflect.InvocationTargetException;
import java.lang.reflect.Method;
import java.lang.reflect.Modifier;
import java.util.Arrays;
import java.util.Comparator;
import java.util.Random;
import java.util.Set;

/**
 * No call may throw, for any arguments in any state; what is asked, and what is answered with a refusal, changes
 * nothing; and the same calls give the same answers.
 */
public final class AnyArgumentsTests {
    private static final int RUNS = 1500, CALLS = 512;
    private static final long[] EDGES = {Integer.MIN_VALUE, Integer.MIN_VALUE + 1, -10002, -100, -99, -15, -2, -1, 0,
        1, 2, 3, 4, 5, 6, 7, 8, 9, 10, 11, 12, 13, 20, 21, 22, 25, 26, 30, 35, 36, 59, 60, 61, 99, 100, 101, 127, 128,
        9999, 0x7ffffffe, Integer.MAX_VALUE, Long.MIN_VALUE, Long.MAX_VALUE};
    private static final Set<String> ASKS = Set.of("of", "told", "run", "first", "worst", "off", "cheapest", "why",
        "odds", "mean", "changed", "looked", "judge", "trace", "taken", "count", "read");
    private static final String[] CLAUSES = {"swell 9 w>2|k=1&!(s<3)", "draw 2 m=1|p<1", "sink 9", "draught 3",
        "swell 99 !!!!k<9", "draw 20 ((((m<12))))", "swell 1 q", ";;"};
    private static final Method[] CALLS_OF_FACE = face();
    private static int wrong = 0;

    private static Method[] face() {
        Method[] all = DoorSticks.class.getDeclaredMethods();
        Method[] open = Arrays.stream(all).filter(m -> Modifier.isPublic(m.getModifiers())).toArray(Method[]::new);
        // The machine tells methods in no sure order; runs shall be the same each time.
        Arrays.sort(open, Comparator.comparing(Method::getName));
        return open;
    }

    public static void main(String[] args) throws Exception {
        if (CALLS_OF_FACE.length != 33) {
            wrong++;
            System.out.println("the face has " + CALLS_OF_FACE.length + " calls, not 33");
        }
        for (int seed = 0; seed < RUNS && wrong < 5; seed++) {
            run(seed);
        }
        System.out.println(wrong == 0 ? "AnyArgumentsTests: all as due" : "AnyArgumentsTests: " + wrong + " wrong");
        System.exit(wrong == 0 ? 0 : 1);
    }

    private static void run(int seed) throws Exception {
        Random r = new Random(seed);
        DoorSticks x = new DoorSticks();
        DoorSticks twin = new DoorSticks();
        StringBuilder log = new StringBuilder();
        int before = wrong;
        for (int i = 0; i < CALLS && wrong == before; i++) {
            if (r.nextInt(12) == 0) {
                String clause = CLAUSES[r.nextInt(CLAUSES.length)] + (r.nextInt(3) == 0 ? ";" : "");
                for (char c : clause.toCharArray()) {
                    x.feed(c);
                    twin.feed(c);
                }
                continue;
            }
            Method m = CALLS_OF_FACE[r.nextInt(CALLS_OF_FACE.length)];
            Object[] given = arguments(m, r);
            log.append(m.getName()).append(Arrays.toString(given)).append(' ');
            boolean looks = seed < 150 && r.nextInt(3) == 0;
            String was = looks ? shown(x) : "";
            long answer = answerOf(m, x, given);
            if (answerOf(m, twin, given) != answer) {
                tell("another answer of the same calls");
            }
            if (looks && (ASKS.contains(m.getName()) || refused(m, answer)) && !was.equals(shown(x))) {
                tell(m.getName() + " changed something");
            }
        }
        if (wrong != before) {
            System.out.println("in run " + seed + ": " + log);
        }
    }

    /** What CUT, PACK and so on were is never below 0; act has no refusal, and a FAULT empties THE TEXT. */
    private static boolean refused(Method m, long answer) {
        return answer < 0 && !m.getName().equals("act") && !m.getName().equals("house");
    }

    private static Object[] arguments(Method m, Random r) {
        Class<?>[] types = m.getParameterTypes();
        Object[] given = new Object[types.length];
        for (int i = 0; i < types.length; i++) {
            int way = r.nextInt(8);
            long v = way == 0 ? r.nextLong() : way < 3 ? EDGES[r.nextInt(EDGES.length)] : r.nextInt(way < 7 ? 6 : 40);
            if (types[i] == int.class) {
                given[i] = (int) v;
            } else {
                given[i] = v;
            }
        }
        return given;
    }

    private static long answerOf(Method m, DoorSticks x, Object[] given) throws IllegalAccessException {
        try {
            return ((Number) m.invoke(x, given)).longValue();
        } catch (InvocationTargetException e) {
            tell(m.getName() + " threw " + e.getCause());
            return 0;
        }
    }

    private static void tell(String what) {
        wrong++;
        System.out.println(what);
    }

    private static String shown(DoorSticks x) {
        StringBuilder all = new StringBuilder();
        for (int what = 0; what < 22; what++) {
            all.append(x.told(what)).append(' ');
        }
        for (int what = 0; what < 5; what++) {
            all.append(x.count(what)).append(' ');
        }
        for (int d = 0; d < 4; d++) {
            for (int what = 0; what < 36; what++) {
                all.append(x.of(d, what)).append(' ');
            }
            all.append(x.looked(d, 0)).append(' ').append(x.run(d, 2, 2)).append(' ');
        }
        for (int t = 0; t < 6; t++) {
            for (int i = 0; i < 61; i++) {
                all.append(x.read(t, i)).append(' ');
            }
        }
        for (int i = 0; i < 20; i++) {
            all.append(x.trace(i)).append(' ');
        }
        return all.toString();
    }
}
