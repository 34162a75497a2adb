/** The boundaries that 'Terms' 2 and promises 8 to 15 name for edits, boxes and forms: a test for each sentence. */
public final class BoxEdgeTest {
    private static final String A = "field a named 3;";
    private static final String AB = "field a named 3;field b scaled 2;";
    private static final String FIVES = "field a named5;field b named5;field c named5;field d named5;field e named5;";

    private BoxEdgeTest() {
    }

    public static void main(String[] args) {
        ownFields();
        noFieldsOfItsOwn();
        passesByNone();
        notEmpty();
        notPassing();
        greatest();
        order();
        enters();
        fewest();
        leastAsBits();
        edit();
        editRefused();
        from();
        fromRefused();
        cover();
        coverOwn();
        coverRefused();
        idle();
        idleRefused();
        boxes();
        boxNone();
        boxRefused();
        passing();
        tried();
        triedZeros();
        triedNoForm();
        triedNoFields();
        Check.end();
    }

    private static String boxes(EditMender x) {
        StringBuilder text = new StringBuilder();
        for (int k = 0; k < x.boxes(); k++) {
            for (int field = 0; field < x.count(0); field++) {
                text.append(field == 0 ? "" : ",").append(x.box(k, field));
            }
            text.append(" ");
        }
        return text.toString();
    }

    // ---- terms

    private static void ownFields() {
        Check.says("the EDIT's FIELDS (those of which some VALUE is not in its set)");
        EditMender x = Check.of(AB + "edit a in 0-2 and b in 1;edit a in 0-1 and b in 0-1;row ?1;row 0?;");
        Check.due("a FIELD of all VALUES is none of them", 1, x.fails(0));
        Check.due("so too in another EDIT", 2, x.fails(1));
        Check.due("all FORMS of b in 1", 3, x.tried(1));
        Check.due("the set is told all the same", 7, x.edit(0, 0));
    }

    private static void noFieldsOfItsOwn() {
        Check.says("It FAILS an EDIT, if for each of the EDIT's FIELDS its VALUE is in that set (no FIELDS: always)");
        EditMender x = Check.of(AB + "edit b in 0-1;row ??;row 2 1;");
        Check.due("a FORM", 1, x.tried(0));
        Check.due("the last FORM", 1, x.tried(21));
        Check.due("a ROW all MISSING", 1, x.fails(0));
        Check.due("a ROW", 1, x.fails(1));
        Check.due("PASSING", 0, x.passing());
        Check.due("one BOX of all", "7,3 ", boxes(x));
    }

    private static void passesByNone() {
        Check.says("It PASSES, if it FAILS none (no EDITS: always)");
        EditMender x = Check.of(AB + "row 0 0;row 2 1;row 2?;");
        Check.due("no EDIT", 0, x.tried(0));
        Check.due("all FORMS", 6, x.passing());
        Check.due("all ROWS without MISSING ones", 2, x.count(3));
    }

    private static void notEmpty() {
        Check.says("A BOX is a set of VALUES, not empty, for each FIELD");
        Check.due("no EDITS, no BOX", "", boxes(Check.of(AB)));
        EditMender x = Check.of(AB + "edit a in 1;edit b in 0 and a in 0;");
        Check.due("sets", "2,3 3,1 ", boxes(x));
    }

    private static void notPassing() {
        Check.says("so that all FORMS with VALUES in these sets do not PASS");
        Check.due("all BOXES", "1,3 7,1 ", boxes(Check.of(AB + "edit a in 0;edit b in 0;")));
        Check.due("no FORM PASSES", "7,3 ", boxes(Check.of(AB + "edit b in 0;edit b in 1;")));
        Check.due("one FORM PASSES", "3,3 7,1 ", boxes(Check.of(AB + "edit a in 0-1;edit b in 0;")));
    }

    private static void greatest() {
        Check.says("GREATEST, if it is within no other one");
        Check.due("an EDIT within another", "3,3 ", boxes(Check.of(AB + "edit a in 0-1;edit a in 1 and b in 1;")));
        Check.due("two together", "3,3 ", boxes(Check.of(AB + "edit a in 0;edit a in 1;")));
        Check.due("the same twice", "2,1 ", boxes(Check.of(AB + "edit a in 1 and b in 0;edit a in 1 and b in 0;")));
        Check.due("parts of one", "6,3 ",
            boxes(Check.of(AB + "edit a in 1-2 and b in 0;edit a in 1 and b in 1;edit a in 2 and b in 1;")));
    }

    private static void order() {
        Check.says("BOXES by the sets of FIELD 0 as bits, the least first, then of FIELD 1, ..");
        Check.due("of FIELD 0", "1,3 5,1 ", boxes(Check.of(AB + "edit a in 2 and b in 0;edit a in 0;")));
        Check.due("of FIELD 1, then of FIELD 2", "1,1,3 1,3,1 3,1,1 ",
            boxes(Check.of("field a named 2;field b named 2;field c named 2;"
                + "edit b in 0 and c in 0;edit a in 0 and c in 0;edit a in 0 and b in 0;")));
    }

    private static void enters() {
        Check.says("A FIELD ENTERS a BOX, if some VALUE is not in its set");
        EditMender x = Check.of(FIVES + "edit a in 0-3 and c in 0 and e in 1-4;");
        Check.due("the FIELDS that lack one", 21, x.box(0, -1));
        Check.due("none", 0, Check.of(A + "edit a in 0-2;").box(0, -1));
        Check.due("all", 31, Check.of(FIVES + "edit a in0and b in1and c in2and d in3and e in4;").box(0, -1));
    }

    private static void fewest() {
        Check.says("FROM of a BOX: the fewest EDITS so that each of its FORMS FAILS one of these");
        EditMender x = Check.of(A + "edit a in 0;edit a in 1;edit a in 2;edit a in 0-1;edit a in 0-2;");
        Check.due("one instead of two", 16, x.from(0));
        Check.due("all six", 63, Check.of("field a named 3;field b named 2;edit a in 0and b in 0;edit a in 0and b in 1;"
            + "edit a in 1and b in 0;edit a in 1and b in 1;edit a in 2and b in 0;edit a in 2and b in 1;").from(0));
    }

    private static void leastAsBits() {
        Check.says("FROM: of several the least as bits");
        EditMender x = Check.of(A + "edit a in 1-2;edit a in 0;edit a in 0;edit a in 1-2;edit a in 0-1;");
        Check.due("of many pairs", 3, x.from(0));
        EditMender y = Check.of(A + "edit a in 1;edit a in 0-2;edit a in 0-2;");
        Check.due("of two ones", 2, y.from(0));
        EditMender z = Check.of(A + "edit a in 2;edit a in 1-2;edit a in 0-1;edit a in 0;");
        Check.due("the last of them is not in it", 5, z.from(0));
    }

    // ---- promises 8 to 15

    private static void edit() {
        Check.says("edit: The set of an EDIT for a FIELD (all VALUES, where it tells none)");
        EditMender x = Check.of(FIVES + "edit e in 4;edit a in 0,2,4;");
        int[][] want = {{31, 31, 31, 31, 16}, {21, 31, 31, 31, 31}};
        for (int edit = 0; edit < 2; edit++) {
            for (int field = 0; field < 5; field++) {
                Check.due("edit " + edit + " " + field, want[edit][field], x.edit(edit, field));
            }
        }
        Check.due("of two VALUES", 3, Check.of(AB + "edit a in 0;").edit(0, 1));
    }

    private static void editRefused() {
        Check.says("edit: IndexOutOfBoundsException: no such EDIT, FIELD");
        EditMender x = Check.of(AB + "edit a in 0;edit b in 0;");
        for (int wrong : new int[] {-1, 2, 6, Integer.MIN_VALUE, Integer.MAX_VALUE}) {
            Check.dueOf("EDIT " + wrong, Check.INDEX, () -> x.edit(wrong, 0));
            Check.dueOf("FIELD " + wrong, Check.INDEX, () -> x.edit(0, wrong));
        }
        Check.dueOf("no EDITS", Check.INDEX, () -> Check.of(AB).edit(0, 0));
    }

    private static void from() {
        Check.says("from: FROM of the k-th BOX (bits)");
        EditMender x = Check.of(AB + "edit b in 0;edit a in 1-2;edit a in 0;edit a in 2;");
        Check.due("one BOX", "7,3 ", boxes(x));
        Check.due("of all FORMS", 6, x.from(0));
        EditMender y = Check.of(AB + "edit b in 0;edit a in 2;edit a in 1;edit a in 2;");
        Check.due("BOXES", "6,3 7,1 ", boxes(y));
        Check.due("the first", 6, y.from(0));
        Check.due("the last", 1, y.from(1));
    }

    private static void noSuchBox(String what, int k, Check.Call call) {
        Check.dueOf(what + " " + k, Check.NO_SUCH, call);
    }

    private static final int[] NO_BOXES = {-1, -2, 2, 3, 64, Integer.MIN_VALUE, Integer.MAX_VALUE};

    private static void fromRefused() {
        Check.says("from: NoSuchElementException: there is no such BOX");
        EditMender x = Check.of(AB + "edit a in 0;edit b in 0;");
        for (int k : NO_BOXES) {
            noSuchBox("from", k, () -> x.from(k));
        }
        noSuchBox("no BOXES", 0, () -> Check.of(AB).from(0));
        noSuchBox("no FIELDS", 0, () -> new EditMender().from(0));
    }

    private static void cover() {
        Check.says("cover: How many FORMS the k-th BOX has (own false)");
        Check.due("one", 1, Check.of(FIVES + "edit a in0and b in1and c in2and d in3and e in4;").cover(0, false));
        Check.due("all of the most", 3125, Check.of(FIVES + "edit a in 0-4;").cover(0, false));
        EditMender x = Check.of(AB + "edit a in 0;edit b in 0;");
        Check.due("the first", 2, x.cover(0, false));
        Check.due("the last", 3, x.cover(1, false));
    }

    private static void coverOwn() {
        Check.says("cover: how many are in no other BOX (true)");
        Check.due("the only BOX", 3125, Check.of(FIVES + "edit a in 0-4;").cover(0, true));
        EditMender x = Check.of(AB + "edit a in 0;edit b in 0;");
        Check.due("but the one in both", 1, x.cover(0, true));
        Check.due("but the one in both", 2, x.cover(1, true));
        EditMender none = Check.of("field a named 2 weight 3;field b scaled 3;field c named 2;"
            + "edit a in 1 and b in 0-1;edit b in 2 and c in 0;");
        Check.due("none of its own", 0, none.cover(1, true));
    }

    private static void coverRefused() {
        Check.says("cover: NoSuchElementException: there is no such BOX");
        EditMender x = Check.of(AB + "edit a in 0;edit b in 0;");
        for (int k : NO_BOXES) {
            noSuchBox("all", k, () -> x.cover(k, false));
            noSuchBox("own", k, () -> x.cover(k, true));
        }
        noSuchBox("no BOXES", 0, () -> Check.of(AB).cover(0, true));
        noSuchBox("no FIELDS", 0, () -> new EditMender().cover(0, false));
    }

    private static void idle() {
        Check.says("IDLE is an EDIT, if without it the same FORMS PASS");
        Check.due("the only one", false, Check.of(A + "edit a in 0;").idle(0));
        Check.due("the only one, of all FORMS", false, Check.of(A + "edit a in 0-2;").idle(0));
        EditMender x = Check.of(A + "edit a in 0-2;edit a in 1;edit a in 0-2;");
        Check.due("the first of two of all FORMS", true, x.idle(0));
        Check.due("between them", true, x.idle(1));
        Check.due("the last of them", true, x.idle(2));
        EditMender y = Check.of(A + "edit a in 0;edit a in 1;edit a in 0-1;edit a in 2;");
        Check.due("within another one", true, y.idle(0));
        Check.due("of two others together", true, y.idle(2));
        Check.due("one FORM of its own", false, y.idle(3));
    }

    private static void idleRefused() {
        Check.says("idle: IndexOutOfBoundsException: no such EDIT");
        EditMender x = Check.of(A + "edit a in 0;");
        for (int wrong : new int[] {-1, 1, 6, Integer.MIN_VALUE, Integer.MAX_VALUE}) {
            Check.dueOf("EDIT " + wrong, Check.INDEX, () -> x.idle(wrong));
        }
        Check.dueOf("no EDITS", Check.INDEX, () -> Check.of(A).idle(0));
        Check.dueOf("no FIELDS", Check.INDEX, () -> new EditMender().idle(0));
    }

    private static void boxes() {
        Check.says("boxes: How many BOXES there are");
        Check.due("no FIELDS", 0, new EditMender().boxes());
        Check.due("no EDITS", 0, Check.of(AB).boxes());
        Check.due("one of all", 1, Check.of(AB + "edit a in 0-2;edit b in 0;").boxes());
        Check.due("two", 2, Check.of(AB + "edit a in 0;edit b in 0;").boxes());
    }

    private static void boxNone() {
        Check.says("box: The set of the k-th BOX for a FIELD (field NONE: which FIELDS ENTER it)");
        EditMender x = Check.of(AB + "edit a in 0;edit b in 0;");
        int[][] want = {{1, 1, 3}, {2, 7, 1}};
        for (int k = 0; k < 2; k++) {
            for (int field = -1; field < 2; field++) {
                Check.due("box " + k + " " + field, want[k][field + 1], x.box(k, field));
            }
        }
    }

    private static void boxRefused() {
        Check.says("box: NoSuchElementException: there is no such BOX (ahead of the FIELD), IndexOutOfBoundsException");
        EditMender x = Check.of(AB + "edit a in 0;edit b in 0;");
        for (int k : NO_BOXES) {
            for (int field : new int[] {-2, -1, 0, 1, 2, Integer.MAX_VALUE}) {
                noSuchBox("FIELD " + field + " of", k, () -> x.box(k, field));
            }
        }
        for (int field : new int[] {-2, 2, 5, Integer.MIN_VALUE, Integer.MAX_VALUE}) {
            Check.dueOf("FIELD " + field, Check.INDEX, () -> x.box(0, field));
            Check.dueOf("FIELD " + field, Check.INDEX, () -> x.box(1, field));
        }
        noSuchBox("no BOXES", 0, () -> Check.of(AB).box(0, 9));
    }

    private static void passing() {
        Check.says("passing: How many FORMS PASS");
        Check.due("no FIELDS", 0, new EditMender().passing());
        Check.due("all", 3125, Check.of(FIVES).passing());
        Check.due("none", 0, Check.of(FIVES + "edit a in 0-4;").passing());
        Check.due("but one", 3124, Check.of(FIVES + "edit a in0and b in1and c in2and d in3and e in4;").passing());
        Check.due("one", 1, Check.of(FIVES + "edit a in0-3;edit b in1-4;edit c in0-1,3-4;edit d in 0-3;edit e in 1-4;")
            .passing());
    }

    private static void tried() {
        Check.says("tried: Which EDITS a FORM FAILS (bits), told by its VALUES as digits, FIELD 0 highest");
        EditMender x = Check.of(FIVES + "edit a in 4;edit b in 3;edit c in 2;edit d in 1;edit e in 0;edit e in 0-4;");
        Check.due("all", 63, x.tried(43210));
        Check.due("the last FORM", 33, x.tried(44444));
        Check.due("by FIELD 0 alone", 33, x.tried(40001));
        Check.due("by the last FIELD", 48, x.tried(0));
    }

    private static void triedZeros() {
        Check.says("tried: 0s ahead of it left out");
        EditMender x = Check.of(FIVES + "edit a in 0;edit b in 0;edit c in 0;edit d in 0;edit e in 0;");
        int[] forms = {0, 1, 10, 100, 1000, 10000};
        int[] want = {31, 15, 23, 27, 29, 30};
        for (int k = 0; k < forms.length; k++) {
            Check.due("tried " + forms[k], want[k], x.tried(forms[k]));
        }
    }

    private static void triedNoForm() {
        Check.says("tried: IllegalArgumentException: it is no FORM");
        EditMender x = Check.of(AB);
        for (int form : new int[] {-1, -10, -21, 2, 9, 22, 30, 31, 99, 100, 121, 1000, 21 + (1 << 30),
            Integer.MIN_VALUE, Integer.MIN_VALUE + 1, Integer.MAX_VALUE}) {
            Check.dueOf("tried " + form, Check.ARGUMENT, () -> x.tried(form));
        }
        EditMender one = Check.of(A);
        Check.due("the last FORM of one FIELD", 0, one.tried(2));
        for (int form : new int[] {3, 10, -10, -2, 100}) {
            Check.dueOf("one FIELD: tried " + form, Check.ARGUMENT, () -> one.tried(form));
        }
        EditMender five = Check.of(FIVES);
        for (int form : new int[] {5, 50, 500, 5000, 50000, 44445, 100000, 144444, 99999, -44444, -100000}) {
            Check.dueOf("five FIELDS: tried " + form, Check.ARGUMENT, () -> five.tried(form));
        }
    }

    private static void triedNoFields() {
        Check.says("tried: IllegalArgumentException: there are no FIELDS");
        EditMender x = new EditMender();
        for (int form : new int[] {0, 1, -1, Integer.MIN_VALUE, Integer.MAX_VALUE}) {
            Check.dueOf("tried " + form, Check.ARGUMENT, () -> x.tried(form));
        }
    }
}
