import java.lang.reflect.InvocationTargetException;
import java.lang.reflect.Method;
import java.util.ArrayList;
import java.util.HashMap;
import java.util.List;
import java.util.Map;
import java.util.NoSuchElementException;

/** Calls told as texts, such as make(0, 0, 1, 5), made on an object that counts how often it was used. */
final class Calls {
    static final long THROWN = Long.MIN_VALUE;
    /** The document promises nothing of an object behind so many calls, so no run may use one oftener. */
    static final int MOST = 512;

    private static final Map<String, Method> FACE = face();

    final NurseryHeap heap = new NurseryHeap();
    int made = 0;

    private static Map<String, Method> face() {
        Map<String, Method> all = new HashMap<>();
        for (Method method : NurseryHeap.class.getDeclaredMethods()) {
            all.put(method.getName(), method);
        }
        return all;
    }

    long make(String call) {
        made++;
        if (made > MOST) {
            throw new IllegalStateException("more than " + MOST + " calls on one object");
        }
        int open = call.indexOf('(');
        Method method = open < 0 || !call.endsWith(")") ? null : FACE.get(call.substring(0, open).trim());
        if (method == null) {
            throw new IllegalArgumentException("no such call: " + call);
        }
        String inside = call.substring(open + 1, call.length() - 1).trim();
        String[] told = inside.isEmpty() ? new String[0] : inside.split(",");
        Class<?>[] types = method.getParameterTypes();
        if (told.length != types.length) {
            throw new IllegalArgumentException("not as many arguments as it has: " + call);
        }
        Object[] arguments = new Object[told.length];
        for (int i = 0; i < told.length; i++) {
            arguments[i] = argument(types[i], told[i].trim());
        }
        return answer(method, arguments);
    }

    private long answer(Method method, Object[] arguments) {
        try {
            Object answer = method.invoke(heap, arguments);
            return answer instanceof Boolean yes ? (yes ? 1 : 0) : (Integer) answer;
        } catch (InvocationTargetException e) {
            if (e.getCause() instanceof NoSuchElementException) {
                return THROWN;
            }
            throw new IllegalStateException("thrown by " + method.getName(), e.getCause());
        } catch (IllegalAccessException e) {
            throw new IllegalStateException(e);
        }
    }

    private static Object argument(Class<?> type, String told) {
        if (type == boolean.class) {
            return told.equals("true");
        }
        long value = value(told);
        if (type == int.class) {
            return (int) value;
        }
        return value;
    }

    static long value(String told) {
        switch (told) {
            case "NONE": return NurseryHeap.NONE;
            case "HIDDEN": return NurseryHeap.HIDDEN;
            case "MIN": return Integer.MIN_VALUE;
            case "MAX": return Integer.MAX_VALUE;
            case "true": return 1;
            case "false": return 0;
            case "throws": return THROWN;
            default: return Long.decode(told);
        }
    }

    static String shown(long answer) {
        return answer == THROWN ? "throws.NoSuchElementException" : String.valueOf(answer);
    }

    /** The calls of feed() that put a text behind what the TAPE has. */
    static List<String> feeding(String text) {
        List<String> calls = new ArrayList<>();
        for (int from = 0; from < text.length(); from += 20) {
            int[] words = new int[5];
            for (int i = 0; i < 20 && from + i < text.length(); i++) {
                words[i / 4] |= text.charAt(from + i) << (24 - i % 4 * 8);
            }
            calls.add("feed(" + words[0] + ", " + words[1] + ", " + words[2] + ", " + words[3] + ", " + words[4] + ")");
        }
        return calls;
    }
}
