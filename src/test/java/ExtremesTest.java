import java.lang.reflect.Method;
import java.util.Arrays;

/** Each call of the face with far numbers and those at its edges, in states that are edges themselves: as the model. */
public final class ExtremesTest {
    private static final int[] NUMBERS = {Integer.MIN_VALUE, Integer.MIN_VALUE + 1, -256, -2, -1, 0, 1, 2, 3, 4, 5, 6, 7, 8,
        16, 21, 31, 32, 39, 40, 41, 63, 64, 100, 255, 256, 44444, 100000, Integer.MAX_VALUE - 1, Integer.MAX_VALUE};
    /** Of calls of three numbers or more. */
    private static final int[] FEWER = {Integer.MIN_VALUE, -2, -1, 0, 1, 2, 3, 4, 5, 7, 8, 31, 32, 39, 40, Integer.MAX_VALUE};

    private static final String[] TEXTS = {
        null,
        "field a named 2;",
        "field a named 3 weight 2;field b scaled 4;field c named 2;group c;edit a in 1 and b in 0-1;edit b in 2 and c in 0;"
            + "row 1 0 0;row 0 0 0;row 1 2 1;row ? 2 1;row ???;",
        "field a named 3;field b scaled 4;group a;edit a in 0-2;edit b in 1;row 0 0;row ??;row 1 1;",
        "field a scaled 5;field b named 2;edit a in 0-1 and b in 1;" + "row0 1;".repeat(20) + "row4?;".repeat(20),
        "field a named5weight9;field b scaled5weight9;field c named5weight9;field d scaled5weight9;field e named5weight9;"
            + "group e;edit a in 4;edit b in 4 and e in 4;row 4 4 4 4 4;row ?????;row 0 0 0 0 0;",
    };

    private EditMender x;
    private Model y;
    private int calls;

    private ExtremesTest() {
    }

    public static void main(String[] args) {
        for (String text : TEXTS) {
            for (Method method : EditMender.class.getDeclaredMethods()) {
                if (java.lang.reflect.Modifier.isPublic(method.getModifiers()) && !method.getName().equals("feed")) {
                    new ExtremesTest().all(text, method);
                }
            }
        }
        Check.end();
    }

    private void all(String text, Method method) {
        Class<?>[] types = method.getParameterTypes();
        int[] numbers = types.length > 2 ? FEWER : NUMBERS;
        int times = 1;
        for (Class<?> type : types) {
            times *= type == boolean.class ? 2 : numbers.length;
        }
        for (int k = 0; k < times; k++) {
            Object[] args = new Object[types.length];
            int rest = k;
            for (int place = 0; place < args.length; place++) {
                int choices = types[place] == boolean.class ? 2 : numbers.length;
                args[place] = choices == 2 ? (Object) (rest % 2 == 0) : (Object) numbers[rest % choices];
                rest /= choices;
            }
            one(text, method, args);
        }
    }

    private void one(String text, Method method, Object[] args) {
        // An object is used for 512 calls at most; one that acts were done on is edge enough no more.
        if (x == null || calls > 470 || x.count(5) > 0) {
            renew(text);
        }
        calls++;
        ModelTest.compare(x, y, method, args, text);
        if (method.getName().equals("end") || method.getName().equals("read")) {
            ModelTest.compare(x, y, ModelTest.method("fault"), new Object[0], text + Arrays.toString(args));
            x = null;
        }
    }

    private void renew(String text) {
        x = new EditMender();
        y = new Model();
        calls = 30;
        if (text != null) {
            ModelTest.tell(x, y, text);
        }
    }
}
