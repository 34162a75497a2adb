import java.util.ArrayList;
import java.util.Arrays;
import java.util.Collections;
import java.util.HashSet;
import java.util.List;
import java.util.Random;
import java.util.Set;

/** Promises 8 to 15: edits, boxes, forms. */
public final class BoxTest {
    private static final String INDEX = "throws.IndexOutOfBoundsException";
    private static final String ARGUMENT = "throws.IllegalArgumentException";
    private static final String NO_SUCH = "throws.NoSuchElementException";
    private static final String FORM = "field a named 2 weight 3;field b scaled 3;field c named 2;"
            + "edit a in 1 and b in 0-1;edit b in 2 and c in 0;";

    private BoxTest() {
    }

    public static void main(String[] args) {
        edits();
        boxes();
        whole();
        idle();
        from();
        tried();
        most();
        for (int seed = 0; seed < 60; seed++) {
            Random random = new Random(seed);
            large(largeText(random), random);
        }
        Check.end();
    }

    private static void edits() {
        EditMender x = Check.of("field a named 5;field b named 2;edit a in 1-2,4,4;edit b in 0-1 and a in 0;");
        Check.due("spans", 22, x.edit(0, 0));
        Check.due("no test: all values", 3, x.edit(0, 1));
        Check.due("all values told", 3, x.edit(1, 1));
        Check.due("one value", 1, x.edit(1, 0));
        Check.dueOf("no such edit", INDEX, () -> x.edit(2, 0));
        Check.dueOf("no such edit", INDEX, () -> x.edit(-1, 0));
        Check.dueOf("no such field", INDEX, () -> x.edit(0, 2));
        Check.dueOf("no such field", INDEX, () -> x.edit(0, -1));
    }

    private static void boxes() {
        EditMender x = Check.of(FORM);
        // The second box follows from both edits: neither of them tells of a in 1 and c in 0 alone.
        int[][] want = {{2, 3, 3, 3, 4, 2, 1}, {2, 7, 1, 5, 3, 0, 3}, {3, 4, 1, 6, 2, 1, 2}};
        Check.due("boxes", 3, x.boxes());
        for (int k = 0; k < 3; k++) {
            for (int field = 0; field < 3; field++) {
                Check.due("box " + k + " " + field, want[k][field], x.box(k, field));
            }
            Check.due("entering " + k, want[k][3], x.box(k, -1));
            Check.due("cover " + k, want[k][4], x.cover(k, false));
            Check.due("own " + k, want[k][5], x.cover(k, true));
            Check.due("from " + k, want[k][6], x.from(k));
        }
        Check.due("passing", 6, x.passing());
        Check.due("forms", 12, x.count(7));
        Check.dueOf("no such box comes first", NO_SUCH, () -> x.box(3, 9));
        Check.dueOf("no such box", NO_SUCH, () -> x.box(-1, 0));
        Check.dueOf("no such field", INDEX, () -> x.box(0, 3));
        Check.dueOf("no such field", INDEX, () -> x.box(0, -2));
        Check.dueOf("no such box", NO_SUCH, () -> x.cover(3, false));
        Check.dueOf("no such box", NO_SUCH, () -> x.cover(-1, true));
        Check.dueOf("no such box", NO_SUCH, () -> x.from(3));
        Check.dueOf("no such box", NO_SUCH, () -> x.from(-1));
        Check.read(x, "field a named 2;edit a in 0;");
        Check.due("boxes of the next text", 1, x.boxes());
        Check.due("a wrong text changes none", ARGUMENT, Check.read(x, "field a named 2;edit a in 1"));
        Check.due("the box", 1, x.box(0, 0));
    }

    private static void whole() {
        EditMender none = Check.of("field a named 2;field b scaled 3;");
        Check.due("no edit, no box", 0, none.boxes());
        Check.due("all pass", 6, none.passing());
        EditMender all = Check.of("field a named 2;field b scaled 3;edit a in 0-1;edit b in 1;");
        Check.due("an edit of no fields: one box", 1, all.boxes());
        Check.due("its set", 3, all.box(0, 0));
        Check.due("its set", 7, all.box(0, 1));
        Check.due("nothing enters it", 0, all.box(0, -1));
        Check.due("it has all forms", 6, all.cover(0, true));
        Check.due("it follows from the first", 1, all.from(0));
        Check.due("none passes", 0, all.passing());
    }

    private static void idle() {
        EditMender x = Check.of("field a named 3;field b named 2;edit a in 0;edit a in 0 and b in 1;edit b in 1;");
        Check.due("an edit with a form of its own", false, x.idle(0));
        Check.due("an edit within others", true, x.idle(1));
        Check.due("an edit with a form of its own", false, x.idle(2));
        Check.dueOf("no such edit", INDEX, () -> x.idle(3));
        Check.dueOf("no such edit", INDEX, () -> x.idle(-1));
        EditMender twice = Check.of("field a named 3;edit a in 0;edit a in 0;");
        Check.due("told twice, each is idle", true, twice.idle(0) && twice.idle(1));
        EditMender covered = Check.of("field a named 3;field b named 2;edit a in 0-1;edit b in 0;edit a in 2 and b in 1;");
        Check.due("none is idle where each has a form alone", false, covered.idle(0));
        Check.due("none is idle where each has a form alone", false, covered.idle(2));
    }

    private static void from() {
        EditMender x = Check.of("field a named 3;edit a in 2;edit a in 0;edit a in 1;edit a in 0-1;edit a in 1-2;");
        Check.due("one box", 1, x.boxes());
        // Two edits will do: 0 and 3, or 1 and 4, or 3 and 4; the least as bits is the first of these.
        Check.due("the fewest, then the least as bits", 9, x.from(0));
    }

    private static void tried() {
        EditMender x = Check.of(FORM);
        Check.due("both ends", 0, x.tried(21));
        Check.due("an edit failed", 1, x.tried(100));
        Check.due("another one", 2, x.tried(20));
        Check.due("zeros left out", 0, x.tried(0));
        for (int wrong : new int[] {-1, -10, 2, 30, 200, 1000, 2000, 999, Integer.MIN_VALUE, Integer.MAX_VALUE}) {
            Check.dueOf("tried " + wrong, ARGUMENT, () -> x.tried(wrong));
        }
        EditMender five = Check.of("field a named 5;field b named 5;field c named 5;field d named 5;field e named 5;"
                + "edit a in 4 and e in 4;edit c in 3-4;");
        Check.due("five digits", 3, five.tried(44444));
        Check.due("five digits", 1, five.tried(40004));
        Check.dueOf("six digits", ARGUMENT, () -> five.tried(100000));
    }

    /** More boxes than most texts have. */
    private static void most() {
        String text = "field a named5;field b named5;field c named5;field d named5;field e named5;"
                + "edit a in0-1and b in0,4and d in2-4;"
                + "edit a in1,3-4and b in0-1and c in0-1,3-4and d in0,2,4and e in0-1,3-4;"
                + "edit a in0,3-4and b in0-2,4and c in4and e in1-4;"
                + "edit b in0,2and c in2-3and d in0-1,4and e in0-2;"
                + "edit a in0,3and b in1-4and c in0,2-3and e in0,2-4;"
                + "edit b in0,2,4and c in1-2and e in0,3;";
        EditMender x = Check.of(text);
        Check.due("boxes", 139, x.boxes());
        large(text, new Random(7));
        Check.due("a smaller text behind it", 0, Check.read(x, FORM));
        Check.due("its boxes", 3, x.boxes());
    }

    // ---- boxes of large forms, by what they must be

    private static void large(String text, Random random) {
        EditMender x = Check.of(text);
        int[][] edits = new int[x.count(1)][5];
        for (int edit = 0; edit < edits.length; edit++) {
            for (int field = 0; field < 5; field++) {
                edits[edit][field] = x.edit(edit, field);
            }
        }
        int[][] boxes = new int[x.boxes()][5];
        Set<String> all = new HashSet<>();
        for (int k = 0; k < boxes.length; k++) {
            // A new object each time: one is used for 512 calls at most.
            EditMender y = Check.of(text);
            for (int field = 0; field < 5; field++) {
                boxes[k][field] = y.box(k, field);
            }
            all.add(Arrays.toString(boxes[k]));
            Check.due("a box fails", true, fails(edits, boxes[k]));
            Check.due("a box is greatest", true, isGreatest(edits, boxes[k]));
            Check.due("boxes in order", true, k == 0 || Arrays.compare(boxes[k - 1], boxes[k]) < 0);
        }
        for (int times = 0; times < 300; times++) {
            int[] grown = grown(edits, random);
            Check.due("a grown box is told", true, grown == null || all.contains(Arrays.toString(grown)));
        }
        for (int k = 0; k < boxes.length && k < 20; k++) {
            Check.due("own forms", ownForms(boxes, k), Check.of(text).cover(k, true));
        }
    }

    private static String largeText(Random random) {
        StringBuilder text = new StringBuilder();
        for (int field = 0; field < 5; field++) {
            text.append("field ").append((char) ('a' + field)).append(" named5;");
        }
        for (int edit = 0; edit < 6; edit++) {
            StringBuilder line = new StringBuilder("edit ");
            for (int field = 0; field < 5; field++) {
                if (random.nextInt(4) != 0) {
                    line.append(line.length() > 5 ? "and " : "").append((char) ('a' + field)).append(" in");
                    int low = random.nextInt(3);
                    line.append(low).append('-').append(low + 1 + random.nextInt(4 - low));
                    line.append(random.nextInt(3) == 0 ? "," + random.nextInt(5) : "");
                }
            }
            if (line.length() > 5 && text.length() + line.length() < 400) {
                text.append(line).append(";");
            }
        }
        return text.toString();
    }

    private static boolean in(int[] box, int field, int value) {
        return (box[field] >> value & 1) != 0;
    }

    private static boolean holds(int[] box, int form) {
        int rest = form;
        for (int field = 4; field >= 0; field--) {
            if (!in(box, field, rest % 5)) {
                return false;
            }
            rest /= 5;
        }
        return true;
    }

    private static boolean fails(int[][] edits, int[] box) {
        for (int form = 0; form < 3125; form++) {
            boolean failed = !holds(box, form);
            for (int[] edit : edits) {
                failed = failed || holds(edit, form);
            }
            if (!failed) {
                return false;
            }
        }
        return true;
    }

    private static int ownForms(int[][] boxes, int k) {
        int own = 0;
        for (int form = 0; form < 3125; form++) {
            int holding = 0;
            for (int[] box : boxes) {
                holding += holds(box, form) ? 1 : 0;
            }
            own += holding == 1 && holds(boxes[k], form) ? 1 : 0;
        }
        return own;
    }

    private static boolean isGreatest(int[][] edits, int[] box) {
        for (int place = 0; place < 25; place++) {
            if (!in(box, place / 5, place % 5) && fails(edits, with(box, place))) {
                return false;
            }
        }
        return true;
    }

    private static int[] with(int[] box, int place) {
        int[] larger = box.clone();
        larger[place / 5] |= 1 << place % 5;
        return larger;
    }

    /** A greatest box got by adding values, as they come, to a form that fails; null for one that passes. */
    private static int[] grown(int[][] edits, Random random) {
        int[] box = new int[5];
        List<Integer> places = new ArrayList<>();
        for (int field = 0; field < 5; field++) {
            box[field] = 1 << random.nextInt(5);
        }
        if (!fails(edits, box)) {
            return null;
        }
        for (int place = 0; place < 25; place++) {
            places.add(place);
        }
        Collections.shuffle(places, random);
        for (int place : places) {
            box = fails(edits, with(box, place)) ? with(box, place) : box;
        }
        return box;
    }
}
