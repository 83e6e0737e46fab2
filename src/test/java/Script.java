import java.lang.reflect.InvocationTargetException;
import java.lang.reflect.Method;
import java.util.Arrays;

/** Runs calls that are written as a text, the way the document and README.md write them: "add(0, 4)". */
final class Script {
    private Script() {
    }

    /** The answer, "throws " and the exception's name, or what is wrong with the text. */
    static String answer(RulerWorkbench x, String call) {
        int open = call.indexOf('(');
        if (open < 0 || !call.endsWith(")")) {
            return "no call: " + call;
        }
        String inside = call.substring(open + 1, call.length() - 1).trim();
        Object[] arguments = inside.isEmpty() ? new Object[0] : numbers(inside);
        Class<?>[] types = new Class<?>[arguments.length];
        Arrays.fill(types, int.class);
        try {
            Method method = RulerWorkbench.class.getMethod(call.substring(0, open), types);
            return String.valueOf(method.invoke(x, arguments));
        } catch (InvocationTargetException e) {
            return "throws " + e.getCause().getClass().getSimpleName();
        } catch (ReflectiveOperationException e) {
            return "no such method: " + call;
        }
    }

    private static Object[] numbers(String inside) {
        return Arrays.stream(inside.split(",")).map(text -> Integer.valueOf(text.trim())).toArray();
    }
}
