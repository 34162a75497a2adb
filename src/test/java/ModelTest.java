import java.lang.reflect.InvocationTargetException;
import java.lang.reflect.Method;
import java.util.ArrayList;
import java.util.Arrays;
import java.util.Comparator;
import java.util.List;
import java.util.Random;

/** Runs of calls, the same on the program and on the plain model: all answers must be the same. */
public final class ModelTest {
    private static final String[] NAMES = {"a", "bc", "def", "ins", "rowand"};
    private static final List<Method> CALLS = calls();

    private ModelTest() {
    }

    public static void main(String[] args) {
        int runs = args.length > 0 ? Integer.parseInt(args[0]) : 300;
        long seed = args.length > 1 ? Long.parseLong(args[1]) : 1;
        for (int run = 0; run < runs; run++) {
            oneRun(run, new Random(seed * 1_000_003 + run));
        }
        Check.end();
    }

    private static List<Method> calls() {
        List<Method> calls = new ArrayList<>();
        for (Method method : EditMender.class.getDeclaredMethods()) {
            if (java.lang.reflect.Modifier.isPublic(method.getModifiers())) {
                calls.add(method);
            }
        }
        calls.sort(Comparator.comparing(Method::getName));
        return calls;
    }

    private static void oneRun(int run, Random random) {
        EditMender x = new EditMender();
        Model y = new Model();
        String history = "run " + run + ":";
        int left = 512;
        while (left > 30) {
            String text = text(random);
            if (random.nextInt(4) == 0) {
                text = spoiled(text, random);
            }
            left -= tell(x, y, text);
            int calls = Math.min(left, random.nextInt(200));
            left -= calls;
            for (int k = 0; k < calls; k++) {
                oneCall(x, y, random, history + " " + text);
            }
        }
    }

    static int tell(EditMender x, Model y, String text) {
        byte[] bytes = Check.bytes(text);
        int calls = 0;
        for (int at = 0; at < bytes.length; at += 20) {
            Object[] numbers = new Object[5];
            Arrays.fill(numbers, 0);
            for (int k = 0; k < 20 && at + k < bytes.length; k++) {
                numbers[k / 4] = (Integer) numbers[k / 4] | (bytes[at + k] & 255) << 24 - k % 4 * 8;
            }
            compare(x, y, method("feed"), numbers, text);
            calls++;
        }
        compare(x, y, method("end"), new Object[] {bytes.length}, text);
        compare(x, y, method("read"), new Object[0], text);
        compare(x, y, method("fault"), new Object[0], text);
        return calls + 3;
    }

    static Method method(String name) {
        return CALLS.stream().filter(m -> m.getName().equals(name)).findFirst().orElseThrow();
    }

    private static void oneCall(EditMender x, Model y, Random random, String where) {
        Method method = CALLS.get(random.nextInt(CALLS.size()));
        if (method.getName().equals("read") && random.nextInt(10) != 0) {
            return;
        }
        Class<?>[] types = method.getParameterTypes();
        Object[] args = new Object[types.length];
        for (int k = 0; k < types.length; k++) {
            args[k] = types[k] == boolean.class ? (Object) random.nextBoolean() : (Object) argument(random, x, k);
        }
        compare(x, y, method, args, where);
    }

    private static int argument(Random random, EditMender x, int place) {
        switch (random.nextInt(place == 0 ? 6 : 4)) {
            case 0:
                return random.nextInt(5) - 1;
            case 1:
                return random.nextInt(13) - 2;
            case 2:
                return random.nextInt(34) - 1;
            case 3:
                return random.nextInt(3);
            case 4:
                return Math.max(0, random.nextInt(x.count(2) + 2) - 1);
            default:
                return random.nextInt(50) == 0 ? random.nextInt() : random.nextInt(6) * 10 + random.nextInt(6);
        }
    }

    static void compare(EditMender x, Model y, Method method, Object[] args, String where) {
        Object want;
        try {
            Method twin = Model.class.getMethod(method.getName(), method.getParameterTypes());
            want = outcome(y, twin, args);
        } catch (NoSuchMethodException e) {
            want = "no such call in the model";
        }
        Object got = outcome(x, method, args);
        if (!want.equals(got)) {
            Check.due(where + " " + method.getName() + Arrays.toString(args), want, got);
        }
    }

    private static Object outcome(Object target, Method method, Object[] args) {
        return Check.outcome(() -> {
            try {
                return method.invoke(target, args);
            } catch (InvocationTargetException e) {
                throw (RuntimeException) e.getCause();
            } catch (IllegalAccessException e) {
                return "no access";
            }
        });
    }

    // ---- texts

    private static String blank(Random random) {
        return random.nextInt(8) == 0 ? new String[] {"\n", "\t", "  "}[random.nextInt(3)] : " ";
    }

    private static String text(Random random) {
        StringBuilder text = new StringBuilder();
        int n = 1 + random.nextInt(5);
        int most = n == 5 ? 3 : n == 4 ? 4 : 5;
        int[] sizes = new int[n];
        for (int f = 0; f < n; f++) {
            sizes[f] = 2 + random.nextInt(most - 1);
            text.append("field").append(blank(random)).append(NAMES[f]).append(blank(random))
                    .append(random.nextBoolean() ? "named" : "scaled").append(random.nextBoolean() ? "" : " ")
                    .append(sizes[f]);
            if (random.nextInt(3) == 0) {
                text.append(" weight ").append(1 + random.nextInt(random.nextBoolean() ? 3 : 9));
            }
            text.append(";");
        }
        if (random.nextBoolean()) {
            text.append("group ").append(NAMES[random.nextInt(n)]).append(";");
        }
        int edits = random.nextInt(7);
        for (int e = 0; e < edits && text.length() < 320; e++) {
            text.append(edit(random, sizes));
        }
        int rows = random.nextInt(4) == 0 ? 40 : random.nextInt(16);
        for (int r = 0; r < rows; r++) {
            String row = row(random, sizes);
            if (text.length() + row.length() <= 400) {
                text.append(row);
            }
        }
        if (text.length() > 400) {
            text.setLength(400);
        }
        return text.toString();
    }

    private static String edit(Random random, int[] sizes) {
        StringBuilder text = new StringBuilder("edit");
        int chosen = 1 + random.nextInt((1 << sizes.length) - 1);
        boolean first = true;
        for (int f = 0; f < sizes.length; f++) {
            if ((chosen >> f & 1) == 0) {
                continue;
            }
            text.append(first ? " " : " and ").append(NAMES[f]).append(" in");
            first = false;
            int spans = 1 + random.nextInt(2);
            for (int k = 0; k < spans; k++) {
                int low = random.nextInt(sizes[f]);
                int high = low + random.nextInt(sizes[f] - low);
                text.append(k == 0 ? random.nextBoolean() ? " " : "" : ",").append(low);
                if (high > low || random.nextInt(5) == 0) {
                    text.append("-").append(high);
                }
            }
        }
        return text.append(";").toString();
    }

    private static String row(Random random, int[] sizes) {
        StringBuilder text = new StringBuilder("row");
        for (int size : sizes) {
            text.append(random.nextInt(12) == 0 ? "?" : " " + random.nextInt(size));
        }
        return text.append(";").toString();
    }

    private static String spoiled(String text, Random random) {
        String signs = "abcdefgrow0123456789?,-; \n\u00ff\u0000in";
        int at = random.nextInt(text.length());
        char sign = signs.charAt(random.nextInt(signs.length()));
        switch (random.nextInt(5)) {
            case 0:
                return text.substring(0, at);
            case 1:
                return text.substring(0, at) + text.substring(at + 1);
            case 2:
                return text.substring(0, at) + sign + text.substring(at + 1);
            case 3:
                return text.length() < 400 ? text.substring(0, at) + sign + text.substring(at) : text;
            default:
                int other = random.nextInt(text.length());
                String moved = text.substring(0, at) + text.substring(Math.min(at, other));
                return moved.length() > 400 ? moved.substring(0, 400) : moved;
        }
    }
}
