import java.lang.reflect.InvocationTargetException;
import java.lang.reflect.Method;
import java.util.ArrayList;
import java.util.HashMap;
import java.util.List;
import java.util.Map;

/** One call by its name, so that the same call can be made on several objects, of the program or of the model. */
public final class Step {
    private static final Map<Class<?>, Map<String, Method>> METHODS = new HashMap<>();

    private final String name;
    private final int[] arguments;

    private Step(String name, int[] arguments) {
        this.name = name;
        this.arguments = arguments;
    }

    /** A boolean argument is written 1 or 0. */
    public static Step of(String name, int... arguments) {
        return new Step(name, arguments);
    }

    /** The calls that make a text a rule, or that only collect it. */
    public static List<Step> textOf(String text) {
        List<Step> steps = new ArrayList<>();
        for (int from = 0; from < text.length(); from += 16) {
            int[] words = new int[4];
            for (int i = from; i < Math.min(from + 16, text.length()); i++) {
                words[i % 16 / 4] |= text.charAt(i) << i % 4 * 8;
            }
            steps.add(new Step("unit", words));
        }
        return steps;
    }

    public static List<Step> ruleOf(String text) {
        List<Step> steps = textOf(text);
        steps.add(of("rule"));
        return steps;
    }

    /** The answer as text, or the simple name of what was thrown. */
    public String on(Object target) {
        try {
            Object answer = methodOf(target).invoke(target, passed(target));
            return answer instanceof Boolean yes ? yes ? "1" : "0" : answer.toString();
        } catch (InvocationTargetException e) {
            return e.getCause().getClass().getSimpleName();
        } catch (IllegalAccessException e) {
            return e.toString();
        }
    }

    /** The last answer of some calls, the others being made for what they change. */
    public static String all(List<Step> steps, Object target) {
        String last = "";
        for (Step step : steps) {
            last = step.on(target);
        }
        return last;
    }

    private Method methodOf(Object target) {
        Map<String, Method> known = METHODS.computeIfAbsent(target.getClass(), Step::methodsOf);
        return known.get(name);
    }

    private static Map<String, Method> methodsOf(Class<?> type) {
        Map<String, Method> found = new HashMap<>();
        for (Method method : type.getDeclaredMethods()) {
            if (java.lang.reflect.Modifier.isPublic(method.getModifiers())) {
                found.put(method.getName(), method);
            }
        }
        return found;
    }

    private Object[] passed(Object target) {
        Class<?>[] types = methodOf(target).getParameterTypes();
        Object[] passed = new Object[types.length];
        for (int i = 0; i < types.length; i++) {
            passed[i] = types[i] == boolean.class ? (Object) (arguments[i] != 0) : (Object) arguments[i];
        }
        return passed;
    }

    @Override
    public String toString() {
        StringBuilder text = new StringBuilder(name).append('(');
        for (int i = 0; i < arguments.length; i++) {
            text.append(i == 0 ? "" : ", ").append(arguments[i]);
        }
        return text.append(')').toString();
    }
}
