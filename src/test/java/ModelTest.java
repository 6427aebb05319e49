import java.lang.reflect.InvocationTargetException;
import java.lang.reflect.Method;
import java.util.Arrays;
import java.util.HashMap;
import java.util.Map;

/** Long runs of calls, the same each time, that the class and the model must answer alike. */
public final class ModelTest {
    private static final int RUNS = 240;
    private static final int CALLS = 512;
    private static final int LOOKS = 60;

    private static final String[] CHANGES = {
        "cast", "work", "work", "work", "over", "together", "slip", "cross", "turn", "turn", "bind", "drop", "latch",
        "pattern", "follow", "follow", "undo", "undo", "buy", "join"
    };
    private static final String[] QUESTIONS = {
        "on", "ofLoop", "ofRun", "seen", "width", "many", "left", "ofPattern", "would", "needs", "best"
    };

    private static final Map<String, Method> METHODS = new HashMap<>();
    private static long seed;

    private ModelTest() {
    }

    private static int pick(int bound) {
        seed = seed * 6364136223846793005L + 1442695040888963407L;
        return (int) ((seed >>> 33) % bound);
    }

    private static String answer(Object on, String name, Object[] args) {
        String key = on.getClass().getName() + "." + name;
        Method method = METHODS.computeIfAbsent(key, k -> find(on.getClass(), name));
        try {
            return String.valueOf(method.invoke(on, args));
        } catch (InvocationTargetException e) {
            return e.getCause().getClass().getSimpleName();
        } catch (IllegalAccessException e) {
            throw new IllegalStateException(e);
        }
    }

    private static Method find(Class<?> in, String name) {
        for (Method method : in.getDeclaredMethods()) {
            if (method.getName().equals(name) && java.lang.reflect.Modifier.isPublic(method.getModifiers())) {
                return method;
            }
        }
        throw new IllegalStateException("no " + name);
    }

    private static int wild() {
        int[] values = {-1, 0, 24, 25, 100, Integer.MIN_VALUE, Integer.MAX_VALUE, -1000};
        return values[pick(values.length)];
    }

    private static int steps() {
        int steps = 0;
        int length = 1 + pick(pick(3) == 0 ? 9 : 3);
        for (int i = 0; i < length; i++) {
            steps = steps * 10 + 1 + pick(9);
        }
        return pick(12) == 0 ? steps / 10 * 10 : steps;
    }

    private static int number(String name, int at, int yarn) {
        if (pick(25) == 0) {
            return wild();
        }
        switch (name) {
            case "buy": return 1 + pick(yarn);
            case "join": case "left": return pick(4);
            case "cast": return 1 + pick(pick(3) == 0 ? 24 : 5);
            case "together": return 2 + pick(2);
            case "cross": return 1 + pick(3);
            case "bind": return 1 + pick(pick(3) == 0 ? 24 : 3);
            case "pattern": return steps();
            case "on": return pick(24);
            case "ofLoop": return at == 0 ? pick(pick(2) == 0 ? 40 : 400) : pick(6);
            case "ofRun": return at == 0 ? pick(9) : pick(4);
            case "ofPattern": return at == 0 ? pick(6) : pick(5);
            case "many": return pick(16);
            case "latch": return pick(9);
            default: return pick(6);
        }
    }

    private static Object[] arguments(String name, int yarn) {
        Class<?>[] types = find(Knitstead.class, name).getParameterTypes();
        Object[] args = new Object[types.length];
        for (int i = 0; i < args.length; i++) {
            args[i] = types[i] == boolean.class ? (Object) (pick(2) == 0) : (Object) number(name, i, yarn);
        }
        return args;
    }

    /** The digest counts as a call, too: every other run asks it each time, the others seldom, and go further so. */
    private static void run(int number) {
        seed = 1000003L * number + 17;
        pick(2);
        int yarn = number % 3 == 0 ? 60 : number % 3 == 1 ? 600 : 9999;
        Knitstead x = new Knitstead();
        Model model = new Model();
        int call = 0;
        while (call < CALLS - LOOKS - 2) {
            String name = pick(3) > 0 ? CHANGES[pick(CHANGES.length)] : QUESTIONS[pick(QUESTIONS.length)];
            Object[] args = call == 0 ? arguments("buy", yarn) : arguments(name, yarn);
            name = call == 0 ? "buy" : name;
            String where = "run " + number + ", call " + call + ": " + name + Arrays.toString(args);
            Check.due(where, answer(model, name, args), answer(x, name, args));
            call++;
            if (number % 2 == 0 || pick(30) == 0) {
                Check.due(where + ", digest", model.digest(), x.digest());
                call++;
            }
        }
        Check.due("run " + number + ", digest at last", model.digest(), x.digest());
        for (int look = 0; look < LOOKS && model.many(7) > 0; look++) {
            int loop = pick(model.many(7));
            int what = look % 6;
            Check.due("run " + number + ", loop " + loop + ", " + what, model.ofLoop(loop, what), x.ofLoop(loop, what));
        }
    }

    public static void main(String[] args) {
        for (int number = 0; number < RUNS; number++) {
            run(number);
        }
        Check.end();
    }
}
