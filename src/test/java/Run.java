import java.lang.reflect.InvocationTargetException;
import java.lang.reflect.Method;
import java.lang.reflect.Modifier;
import java.util.Arrays;
import java.util.Map;
import java.util.TreeMap;

/** One new object and the calls that a test makes on it, written as the document writes them: "hide(0, 1)". */
final class Run {
    private static final Map<String, Method> FACE = face();
    /** What the document allows an object: what later calls answer is free, so no test may ask more. */
    static final int MOST_CALLS = 512;

    private final SpiderLoom loom = new SpiderLoom();
    private final String words;
    private int calls = 0;

    /** The words stand in front of each answer that is not as due. */
    Run(String words) {
        this.words = words;
    }

    private static Map<String, Method> face() {
        Map<String, Method> byName = new TreeMap<>();
        for (Method m : SpiderLoom.class.getDeclaredMethods()) {
            if (Modifier.isPublic(m.getModifiers())) {
                byName.put(m.getName(), m);
            }
        }
        return byName;
    }

    static String call(String name, int... arguments) {
        String inside = Arrays.toString(arguments);
        return name + "(" + inside.substring(1, inside.length() - 1) + ")";
    }

    int calls() {
        return calls;
    }

    long ask(String call) {
        int open = call.indexOf('(');
        String inside = call.substring(open + 1, call.length() - 1).trim();
        Object[] arguments = inside.isEmpty() ? new Object[0]
            : Arrays.stream(inside.split(",")).map(a -> Integer.valueOf(a.trim())).toArray();
        calls++;
        if (calls > MOST_CALLS) {
            throw new IllegalStateException("the test asks more than " + MOST_CALLS + " calls of one object");
        }
        try {
            return ((Number) FACE.get(call.substring(0, open)).invoke(loom, arguments)).longValue();
        } catch (InvocationTargetException e) {
            throw new IllegalStateException(words + call + " threw", e.getCause());
        } catch (IllegalAccessException e) {
            throw new IllegalStateException(call, e);
        }
    }

    /** Makes calls whose answers another test holds. */
    Run after(String... some) {
        for (String call : some) {
            ask(call);
        }
        return this;
    }

    Run is(String call, long want) {
        Check.due(words + call, ask(call), want);
        return this;
    }

    Run type(String text) {
        for (int i = 0; i < text.length(); i++) {
            ask(call("type", text.charAt(i)));
        }
        return this;
    }

    /** Makes a sheet of a form with these items. */
    Run fill(int s, int form, int... items) {
        ask(call("sheet", s, form, items.length));
        for (int i = 0; i < items.length; i++) {
            ask(call("put", s, form, i, items[i]));
        }
        return this;
    }

    Run items(int s, int form, int... want) {
        for (int i = 0; i < want.length; i++) {
            is(call("get", s, form, i), want[i]);
        }
        return this;
    }

    /** Holds a whole web, its pegs' figures one behind the other, and that it has no more. */
    Run web(int peg, int law, String want) {
        for (int i = 0; i < 10; i++) {
            is(call("web", peg, law, i), i < want.length() ? want.charAt(i) - '0' : SpiderLoom.NONE);
        }
        return this;
    }
}
