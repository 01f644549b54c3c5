import java.lang.reflect.InvocationTargetException;
import java.lang.reflect.Method;
import java.lang.reflect.Modifier;
import java.util.HashMap;
import java.util.Map;

/**
 * Calls told as texts, as "exit 0 n 1", made one behind the other on one object. "typed" types a text, and
 * word, say, name and jump type what stands behind them first; _ is a blank there.
 */
final class Script {

    // The document promises nothing of what later calls answer.
    private static final int MOST_CALLS = 512;
    private static final Map<String, Method> METHODS = methods();

    private final Lorewick x = new Lorewick();
    private int calls = 0;

    private static Map<String, Method> methods() {
        Map<String, Method> methods = new HashMap<>();
        for (Method method : Lorewick.class.getDeclaredMethods()) {
            if (Modifier.isPublic(method.getModifiers())) {
                methods.put(method.getName(), method);
            }
        }
        return methods;
    }

    /** Makes calls that are divided by commas, and returns their answers, divided by commas, too. */
    String run(String texts) {
        StringBuilder answers = new StringBuilder();
        for (String text : texts.split(",")) {
            if (!text.isBlank()) {
                answers.append(answers.length() == 0 ? "" : ", ").append(answer(text.strip()));
            }
        }
        return answers.toString();
    }

    /** Makes one call and returns its answer, or what it threw. */
    private String answer(String text) {
        String name = text.split(" ")[0];
        String rest = text.substring(name.length()).stripLeading();
        switch (name) {
            case "typed":
                return type(rest);
            case "word", "say", "name", "jump":
                type(rest);
                return call(name);
            default:
                return call(name, rest.isEmpty() ? new String[0] : rest.split(" "));
        }
    }

    private String type(String text) {
        String answer = "";
        for (char sign : text.replace('_', ' ').toCharArray()) {
            answer = invoked("type", sign);
        }
        return answer;
    }

    private String call(String name, String... texts) {
        Method method = METHODS.get(name);
        if (method == null || method.getParameterCount() != texts.length) {
            throw new AssertionError("no such call: " + name);
        }
        Object[] values = new Object[texts.length];
        for (int i = 0; i < texts.length; i++) {
            values[i] = valueOf(texts[i], method.getParameterTypes()[i]);
        }
        return invoked(name, values);
    }

    private static Object valueOf(String text, Class<?> type) {
        if (type == int.class) {
            return Integer.valueOf(text);
        }
        if (type == boolean.class) {
            return Boolean.valueOf(text);
        }
        return text.equals("blank") ? ' ' : text.length() == 1 ? text.charAt(0) : (char) Integer.parseInt(text);
    }

    private String invoked(String name, Object... values) {
        calls++;
        if (calls > MOST_CALLS) {
            throw new AssertionError("more than 512 calls");
        }
        try {
            return String.valueOf(METHODS.get(name).invoke(x, values));
        } catch (InvocationTargetException e) {
            return Check.textOf(e.getCause());
        } catch (IllegalAccessException e) {
            throw new AssertionError(e);
        }
    }
}
