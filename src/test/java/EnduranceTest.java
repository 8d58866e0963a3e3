import java.lang.reflect.Method;
import java.lang.reflect.Modifier;
import java.util.ArrayList;
import java.util.Comparator;
import java.util.List;
import java.util.Random;

/**
 * No call throws or fails to end, whatever its arguments and however many calls came before it; and
 * the same calls always get the same answers, whatever other planners are asked in between. What an
 * object answers behind its 512th call is free, so there an answer is only wanted at all.
 */
public final class EnduranceTest {
    private static final int PROMISED = 512;
    private static final int CALLS = 20 * PROMISED;
    private static final int RUNS = 12;

    /** The least answer of all: -10 minus the greatest error offset, the length of a full text. */
    private static final int LEAST = -90;
    private static final int[] ODD = {Integer.MIN_VALUE, Integer.MIN_VALUE + 1, -65, -64, -49, -8,
        -7, -1, 0, 1, 2, 6, 7, 8, 31, 32, 48, 49, 50, 55, 56, 59, 63, 64, 80, 255, 256, 65536,
        Integer.MAX_VALUE - 1, Integer.MAX_VALUE};

    private final Random random;
    private final GlassPlanner first = new GlassPlanner();
    private final GlassPlanner second = new GlassPlanner();
    private final GlassPlanner other = new GlassPlanner();
    private int made = 0;

    private EnduranceTest(int seed) {
        random = new Random(seed);
    }

    public static void main(String[] args) {
        List<Method> methods = new ArrayList<>();
        for (Method method : GlassPlanner.class.getDeclaredMethods()) {
            if (Modifier.isPublic(method.getModifiers())) {
                methods.add(method);
            }
        }
        methods.sort(Comparator.comparing(Method::getName));
        for (int seed = 0; seed < RUNS; seed++) {
            EnduranceTest test = new EnduranceTest(seed);
            while (test.made < CALLS) {
                test.step(methods);
            }
        }
        for (Method method : methods) {
            oddArguments(method);
        }
        Run.end();
    }

    private void step(List<Method> methods) {
        if (random.nextInt(8) == 0) {
            type();
        } else {
            Method method = methods.get(random.nextInt(methods.size()));
            call(method.getName(), arguments(method));
        }
        Method method = methods.get(random.nextInt(methods.size()));
        Run.answer(other, method.getName(), arguments(method));
    }

    private void call(String method, Object... arguments) {
        made++;
        int one = Run.answer(first, method, arguments);
        int two = Run.answer(second, method, arguments);
        String name = "call " + made + ", " + method;
        Run.due(name, "its answer to the second of two equal planners", two, one);
        Run.due(name, "whether its answer, " + one + ", can be", one >= LEAST ? 1 : 0, 1);
    }

    private Object[] arguments(Method method) {
        Object[] arguments = new Object[method.getParameterCount()];
        for (int i = 0; i < arguments.length; i++) {
            arguments[i] = random.nextInt(6) == 0 ? ODD[random.nextInt(ODD.length)]
                    : random.nextInt(random.nextBoolean() ? 3 : 7);
        }
        return arguments;
    }

    /** A drawing of any size, seldom with one character too many. */
    private void type() {
        call("clearText");
        int rows = 1 + random.nextInt(7);
        int columns = 1 + random.nextInt(7);
        int colours = 1 + random.nextInt(6);
        for (int row = 0; row < rows; row++) {
            for (int column = 0; column < columns; column++) {
                call("appendCharacter", '0' + random.nextInt(colours));
            }
            call("appendCharacter", (int) ';');
        }
        if (random.nextInt(4) == 0) {
            call("appendCharacter", random.nextInt(256));
        }
        call("loadDrawing");
    }

    /** Each argument as odd as can be, with the others as they should be and odd as well. */
    private static void oddArguments(Method method) {
        int count = method.getParameterCount();
        GlassPlanner planner = new GlassPlanner();
        for (int mask = 1; mask < 1 << count; mask++) {
            for (int odd : ODD) {
                Object[] arguments = new Object[count];
                for (int i = 0; i < count; i++) {
                    arguments[i] = (mask & (1 << i)) != 0 ? odd : 0;
                }
                int answer = Run.answer(planner, method.getName(), arguments);
                Run.due(method.getName() + " of " + odd, "whether its answer can be",
                        answer >= GlassPlanner.LIMIT_REACHED ? 1 : 0, 1);
            }
        }
    }
}
