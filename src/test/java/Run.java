import java.lang.reflect.InvocationTargetException;
import java.lang.reflect.Method;
import java.util.HashMap;
import java.util.Map;

/** A run of calls on a new GlassPlanner, each with the answer that is due. */
final class Run {
    private static final Map<String, Method> METHODS = new HashMap<>();
    private static int right = 0;
    private static int wrong = 0;

    static {
        for (Method method : GlassPlanner.class.getDeclaredMethods()) {
            METHODS.put(method.getName(), method);
        }
    }

    /** What the document allows: behind so many calls the answers of an object are free. */
    private static final int MOST_CALLS = 512;

    private final String name;
    private final GlassPlanner planner = new GlassPlanner();
    private int made = 0;

    Run(String name) {
        this.name = name;
    }

    /** Appends the characters to the text buffer, which must be empty before. */
    Run type(String text) {
        for (int i = 0; i < text.length(); i++) {
            String call = "appendCharacter(" + (int) text.charAt(i) + ")";
            due(name, call, ask(call), i + 1);
        }
        return this;
    }

    /** Loads a drawing of so many panes, whose rows are divided by semicolons. */
    Run load(String text, int panes) {
        return type(text).calls("loadDrawing()=" + panes);
    }

    /** Makes the calls, written as name(arguments)=answer with a space between two of them. */
    Run calls(String script) {
        for (String step : script.trim().split("\\s+")) {
            int equals = step.indexOf('=');
            String call = step.substring(0, equals);
            due(name, call, ask(call), Integer.parseInt(step.substring(equals + 1)));
        }
        return this;
    }

    /** Makes the same call so many times, with the same answer each time. */
    Run times(int times, String step) {
        for (int i = 0; i < times; i++) {
            calls(step);
        }
        return this;
    }

    /** Makes one call and answers what it answered. */
    int ask(String call) {
        made++;
        if (made > MOST_CALLS) {
            due(name, "number of calls, or it is no test,", made, MOST_CALLS);
        }
        return answer(planner, call);
    }

    static void due(String name, String what, long got, long want) {
        if (got == want) {
            right++;
        } else {
            wrong++;
            System.out.println(name + ": " + what + " answered " + got + ", due is " + want);
        }
    }

    /** Says how many answers were right and ends with exit code 1 if one was wrong. */
    static void end() {
        System.out.println(right + " answers as due, " + wrong + " not as due");
        if (wrong != 0 || right == 0) {
            System.exit(1);
        }
    }

    private static int answer(GlassPlanner planner, String call) {
        int open = call.indexOf('(');
        String inside = call.substring(open + 1, call.indexOf(')'));
        String[] words = inside.isEmpty() ? new String[0] : inside.split(",");
        Object[] arguments = new Object[words.length];
        for (int i = 0; i < words.length; i++) {
            arguments[i] = Integer.valueOf(words[i].trim());
        }
        return answer(planner, call.substring(0, open), arguments);
    }

    static int answer(GlassPlanner planner, String method, Object... arguments) {
        try {
            return (Integer) METHODS.get(method).invoke(planner, arguments);
        } catch (IllegalAccessException | InvocationTargetException e) {
            throw new IllegalStateException(method + " failed", e);
        }
    }
}
