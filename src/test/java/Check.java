import java.nio.charset.StandardCharsets;

/** What all tests share: counting what is not as due, telling texts, catching what is thrown. */
final class Check {
    interface Call {
        Object run();
    }

    static final String INDEX = "throws.IndexOutOfBoundsException";
    static final String ARGUMENT = "throws.IllegalArgumentException";
    static final String NO_SUCH = "throws.NoSuchElementException";
    static final String STATE = "throws.IllegalStateException";

    private static int wrong = 0;
    private static String sentence = "";

    private Check() {
    }

    /** The document's sentence that the checks behind this one are of. */
    static void says(String words) {
        sentence = "[" + words + "] ";
    }

    static void due(String what, Object want, Object got) {
        if (!want.equals(got)) {
            wrong++;
            System.out.println(sentence + what + " answered " + got + ", due is " + want);
        }
    }

    /** The call's answer, or "throws." and the exception's name. */
    static Object outcome(Call call) {
        try {
            return call.run();
        } catch (RuntimeException e) {
            StackTraceElement[] trace = e.getStackTrace();
            String where = trace.length > 0 ? trace[0].getClassName() : "";
            // An exception that the machine or the library throws is a fault, whatever its class is.
            String sender = where.startsWith("EditMender") || where.startsWith("Model") ? "" : "machine.";
            return sender + "throws." + e.getClass().getSimpleName();
        }
    }

    static void dueOf(String what, Object want, Call call) {
        due(what, want, outcome(call));
    }

    static void feed(EditMender x, byte[] text) {
        for (int at = 0; at < text.length; at += 20) {
            int[] numbers = new int[5];
            for (int k = 0; k < 20; k++) {
                int octet = at + k < text.length ? text[at + k] & 255 : 0;
                numbers[k / 4] = numbers[k / 4] << 8 | octet;
            }
            x.feed(numbers[0], numbers[1], numbers[2], numbers[3], numbers[4]);
        }
        x.end(text.length);
    }

    static byte[] bytes(String text) {
        return text.getBytes(StandardCharsets.ISO_8859_1);
    }

    static Object read(EditMender x, String text) {
        feed(x, bytes(text));
        return outcome(x::read);
    }

    static EditMender of(String text) {
        EditMender x = new EditMender();
        Object rows = read(x, text);
        if (!(rows instanceof Integer)) {
            due("read() of " + text, "a number", rows);
        }
        return x;
    }

    /** A text that is right up to its '|', and wrong there; right as a whole without one. */
    static void fault(String text) {
        String told = text.replace("|", "");
        EditMender x = new EditMender();
        Object answer = read(x, told);
        due("read() of '" + text + "'", text.equals(told), answer instanceof Integer);
        due("fault() of '" + text + "'", text.indexOf('|'), x.fault());
    }

    /** The least and the greatest numbers, and those next to them. */
    static int[] far() {
        return new int[] {Integer.MIN_VALUE, Integer.MIN_VALUE + 1, Integer.MAX_VALUE - 1, Integer.MAX_VALUE};
    }

    static String written(EditMender x, int row) {
        StringBuilder text = new StringBuilder();
        int length = x.write(row);
        for (int k = 0; k < length; k++) {
            text.append((char) x.octet(k));
        }
        return text.toString();
    }

    static String allWritten(EditMender x) {
        StringBuilder text = new StringBuilder();
        for (int row = 0; row < x.count(2); row++) {
            text.append(row == 0 ? "" : " ").append(written(x, row));
        }
        return text.toString();
    }

    static void end() {
        System.out.println(wrong == 0 ? "all answers are as due" : wrong + " answers are not as due");
        if (wrong != 0) {
            System.exit(1);
        }
    }
}
