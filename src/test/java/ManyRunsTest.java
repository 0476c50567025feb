import java.lang.reflect.Method;
import java.util.ArrayList;
import java.util.Arrays;
import java.util.Comparator;
import java.util.List;
import java.util.Random;

/** All promises: many runs of calls by lot (always the same ones), each answer held against the Model's. */
public final class ManyRunsTest {
    private static final int RUNS = 400, CALLS = 512;
    private static final int[] STRANGE = {-1, 10, 11, 31, 32, 48, 49, 100, 200, 201, 255, 256, -2, Integer.MAX_VALUE,
        Integer.MIN_VALUE};

    private final Random lots;
    private final SpiderLoom loom = new SpiderLoom();
    private final Model model = new Model();
    private final String name;
    private int calls = 0;

    private ManyRunsTest(int run) {
        lots = new Random(1000 + run);
        name = "run " + run;
    }

    public static void main(String[] args) throws Exception {
        List<Method> face = new ArrayList<>();
        for (Method m : SpiderLoom.class.getDeclaredMethods()) {
            if (java.lang.reflect.Modifier.isPublic(m.getModifiers())) {
                face.add(m);
            }
        }
        // The order in which reflection tells methods is free.
        face.sort(Comparator.comparing(Method::getName));
        for (int run = 0; run < RUNS; run++) {
            new ManyRunsTest(run).go(face);
        }
        Check.end("ManyRunsTest");
    }

    private void go(List<Method> face) throws Exception {
        typePegs(face);
        while (calls < CALLS - 1) {
            Method m = face.get(lots.nextInt(face.size()));
            boolean ofText = m.getName().equals("type") || m.getName().equals("undo") || m.getName().equals("wipe");
            if (m.getName().equals("digest") && lots.nextInt(4) != 0) {
                continue;
            }
            if (ofText && lots.nextInt(6) != 0) {
                continue;
            }
            if (ofText && lots.nextInt(3) == 0 && calls < CALLS - 60) {
                retype(face);
            } else {
                ask(m, arguments(m));
            }
        }
        ask(method(face, "digest"), new int[0]);
    }

    private static Method method(List<Method> face, String name) {
        return face.stream().filter(m -> m.getName().equals(name)).findFirst().orElseThrow();
    }

    private void retype(List<Method> face) throws Exception {
        ask(method(face, "wipe"), new int[0]);
        typePegs(face);
    }

    private void typePegs(List<Method> face) throws Exception {
        int n = lots.nextInt(4) == 0 ? 10 : lots.nextInt(11);
        int width = lots.nextBoolean() ? 10 : 4;
        boolean apart = lots.nextInt(10) != 0;
        List<Integer> places = new ArrayList<>();
        Method type = method(face, "type");
        for (int i = 0; i < n; i++) {
            int place = 10 * lots.nextInt(width) + lots.nextInt(width);
            if (apart && places.contains(place)) {
                continue;
            }
            if (!places.isEmpty()) {
                ask(type, new int[] {';'});
            }
            places.add(place);
            ask(type, new int[] {'0' + place / 10});
            ask(type, new int[] {'0' + place % 10});
        }
    }

    private int[] arguments(Method m) {
        int[] a = new int[m.getParameterCount()];
        for (int i = 0; i < a.length; i++) {
            a[i] = lots.nextInt(25) == 0 ? STRANGE[lots.nextInt(STRANGE.length)] : usual(m.getName(), i);
        }
        return a;
    }

    private int usual(String call, int i) {
        switch (call) {
            case "type": return lots.nextInt(3) == 0 ? ';' : '0' + lots.nextInt(10);
            case "set": return i == 0 ? lots.nextInt(3) : lots.nextInt(3) == 0 ? lots.nextInt(201) : lots.nextInt(10);
            case "hide": return i == 0 ? lots.nextInt(10) : lots.nextInt(3) / 2;
            case "read": case "lose": return lots.nextInt(4);
            case "web": return i == 1 ? lots.nextInt(4) : lots.nextInt(10);
            case "length": return i == 0 ? lots.nextInt(10) : lots.nextInt(i == 1 ? 4 : 3);
            case "last": return i % 2 == 0 ? lots.nextInt(8) : lots.nextInt(i == 1 ? 4 : 2);
            case "two": return i == 4 ? lots.nextInt(3) : lots.nextInt(i % 2 == 0 ? 8 : 4);
            case "flies": return i == 2 ? lots.nextInt() : lots.nextInt(i == 0 ? 8 : i == 1 ? 4 : 100);
            case "dew": case "write": return lots.nextInt(i == 0 ? 8 : 4);
            case "seen": return i == 1 ? 1 + lots.nextInt(3) : lots.nextInt(6);
            case "sheet": return i == 0 ? lots.nextInt(4) : i == 1 ? lots.nextInt(3) : lots.nextInt(14);
            case "put": return i == 3 ? item() : i == 2 ? lots.nextInt(12) : lots.nextInt(i == 0 ? 4 : 3);
            case "get": return i == 2 ? lots.nextInt(12) : lots.nextInt(i == 0 ? 4 : 3);
            case "copy": return lots.nextInt(i % 2 == 0 && i < 4 ? 4 : 6);
            case "begin": return lots.nextInt(4);
            default: return i == 1 ? lots.nextInt(4) : lots.nextInt(9);
        }
    }

    private int item() {
        int kind = lots.nextInt(4);
        return kind == 0 ? lots.nextInt() : kind == 1 ? lots.nextInt(600) - 300 : lots.nextInt(kind == 2 ? 2 : 12);
    }

    private void ask(Method m, int[] a) throws Exception {
        Object[] boxed = Arrays.stream(a).boxed().toArray();
        long got = ((Number) m.invoke(loom, boxed)).longValue();
        calls++;
        String told = Arrays.toString(a);
        Check.due(name + ", call " + calls + ": " + m.getName() + "(" + told.substring(1, told.length() - 1) + ")",
            got, model.call(m.getName(), a));
    }
}
