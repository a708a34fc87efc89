import java.lang.reflect.InvocationTargetException;
import java.lang.reflect.Method;
import java.lang.reflect.Modifier;
import java.util.ArrayList;
import java.util.HashMap;
import java.util.List;
import java.util.Map;

/** A new QuinceEnd whose calls are told as text, "weigh(0, 20)", and counted: it is promised for 512 calls. */
final class Calls {
    static final int MOST = 512;
    private static final Map<String, Method> METHODS = new HashMap<>();

    static {
        for (Method m : QuinceEnd.class.getDeclaredMethods()) {
            if (Modifier.isPublic(m.getModifiers())) {
                METHODS.put(m.getName(), m);
            }
        }
    }

    private final QuinceEnd x = new QuinceEnd();
    private int made;

    int made() {
        return made;
    }

    long answer(String call) {
        made++;
        int open = call.indexOf('(');
        Method m = METHODS.get(call.substring(0, open));
        String inside = call.substring(open + 1, call.indexOf(')')).trim();
        String[] told = inside.isEmpty() ? new String[0] : inside.split(" *, *");
        Object[] arguments = new Object[told.length];
        for (int i = 0; i < told.length; i++) {
            long v = Long.parseLong(told[i]);
            if (m.getParameterTypes()[i] == long.class) {
                arguments[i] = v;
            } else {
                arguments[i] = Math.toIntExact(v);
            }
        }
        try {
            return ((Number) m.invoke(x, arguments)).longValue();
        } catch (InvocationTargetException | IllegalAccessException e) {
            throw new IllegalStateException(call, e);
        }
    }

    /** All that later calls show of it; the object is used up by this, as some of it is shown only by changing it. */
    List<String> shows() {
        List<String> shown = new ArrayList<>();
        showAsked(shown);
        showTapes(shown);
        for (int thing = 0; thing < 6; thing++) {
            for (int part = 0; part < 4 && answer("of(" + thing + ", 0)") == 6; part++) {
                show(shown, "row(" + thing + ", " + part + ", 0)");
            }
        }
        show(shown, "feed(59)");
        show(shown, "kitchen()");
        show(shown, "count(1)");
        show(shown, "undo()");
        showPan(shown);
        return shown;
    }

    private void show(List<String> shown, String call) {
        shown.add(call + " answered " + answer(call));
    }

    private void showAsked(List<String> shown) {
        showPan(shown);
        for (int i = 0; i < answer("count(6)"); i++) {
            show(shown, "trace(" + i + ")");
        }
        for (int thing = 0; thing < answer("count(0)"); thing++) {
            show(shown, "can(" + thing + ", 0)");
            show(shown, "can(" + thing + ", 1)");
            show(shown, "of(" + thing + ", 7)");
        }
        String[] asked = {"told(7)", "told(8)", "on(1, 0)", "on(7, 0)", "best(1, -1)", "best(1, 0)", "enough(3)",
            "flame(3, 77)", "odds(3, 0)", "mean(0)"};
        for (String call : asked) {
            show(shown, call);
        }
    }

    private void showPan(List<String> shown) {
        for (int what = 0; what <= 6; what++) {
            show(shown, "count(" + what + ")");
            show(shown, "told(" + what + ")");
        }
        for (int thing = 0; thing < answer("count(0)"); thing++) {
            for (int what = 0; what <= 6; what++) {
                show(shown, "of(" + thing + ", " + what + ")");
            }
        }
        show(shown, "ends(0)");
        show(shown, "ends(1)");
        show(shown, "looked()");
    }

    /** The sort is shown by what is left of a long that is put there. */
    private void showTapes(List<String> shown) {
        for (int tape = 0; tape < 6; tape++) {
            for (int place : new int[] {0, 1, 2, 3, 59}) {
                show(shown, "read(" + tape + ", " + place + ")");
            }
            show(shown, "item(" + tape + ", 0, " + 0x123456789ABCDEF0L + ")");
            show(shown, "read(" + tape + ", 0)");
        }
    }
}
