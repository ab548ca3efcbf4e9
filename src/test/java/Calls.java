import java.lang.reflect.InvocationTargetException;
import java.lang.reflect.Method;
import java.util.ArrayList;
import java.util.HashMap;
import java.util.List;
import java.util.Map;

/**
 * Runs of calls written as text: "row(0, 4, 3) = 3; lay() = NOT; get(0, 8, 0) = !14".
 * !n is Long.MIN_VALUE + n, the constants go by name, and type 3a0=1 types the bytes up to the end of the line.
 */
final class Calls {
    static int checked = 0;
    static int wrong = 0;

    private static final Map<String, Method> METHODS = methods();

    private Calls() {
    }

    private static Map<String, Method> methods() {
        Map<String, Method> byName = new HashMap<>();
        for (Method method : PatchDesk.class.getDeclaredMethods()) {
            if (java.lang.reflect.Modifier.isPublic(method.getModifiers())) {
                byName.put(method.getName(), method);
            }
        }
        return byName;
    }

    /** The calls on a new object, each with the answer that is due. */
    static void run(String name, String calls) {
        on(new PatchDesk(), name, calls);
    }

    static void on(PatchDesk desk, String name, String calls) {
        for (String line : calls.split("\n")) {
            if (line.trim().startsWith("type ")) {
                typeAll(desk, line.trim().substring(5));
                continue;
            }
            for (String call : line.split(";")) {
                if (!call.isBlank()) {
                    check(desk, name, call.trim());
                }
            }
        }
    }

    static void typeAll(PatchDesk desk, String text) {
        for (char c : text.toCharArray()) {
            desk.type(c);
        }
    }

    private static void check(PatchDesk desk, String name, String call) {
        int end = call.lastIndexOf(" = ");
        due(name, call.substring(0, end), answer(desk, call.substring(0, end)), value(call.substring(end + 3)));
    }

    static void due(String name, String call, long got, long want) {
        checked++;
        if (got != want) {
            wrong++;
            System.out.println(name + ": " + call + " answered " + got + ", due is " + want);
        }
    }

    static long answer(PatchDesk desk, String call) {
        int open = call.indexOf('(');
        List<Object> args = new ArrayList<>();
        for (String arg : call.substring(open + 1, call.length() - 1).split(",")) {
            if (!arg.isBlank()) {
                args.add((int) value(arg));
            }
        }
        return invoke(desk, METHODS.get(call.substring(0, open)), args.toArray());
    }

    static long invoke(Object desk, Method method, Object... args) {
        try {
            return ((Number) method.invoke(desk, args)).longValue();
        } catch (InvocationTargetException | IllegalAccessException e) {
            throw new IllegalStateException(method.getName(), e);
        }
    }

    static long value(String text) {
        String word = text.trim();
        switch (word) {
            case "NONE": return PatchDesk.NONE;
            case "BAD": return PatchDesk.BAD;
            case "NOT": return PatchDesk.NOT;
            case "FULL": return PatchDesk.FULL;
            case "MIN": return Integer.MIN_VALUE;
            case "MAX": return Integer.MAX_VALUE;
            default:
        }
        return word.startsWith("!") ? Long.MIN_VALUE + Long.parseLong(word.substring(1)) : Long.parseLong(word);
    }

    static void finish(String test) {
        System.out.println(test + ": " + checked + " checks, " + wrong + " wrong");
        if (wrong != 0 || checked == 0) {
            System.exit(1);
        }
    }
}
