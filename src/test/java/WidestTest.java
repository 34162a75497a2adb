import java.util.Random;

/** Texts as wide as they may be, 5 FIELDS of 5 VALUES and up to 6 EDITS of many FIELDS: all answers as the model. */
public final class WidestTest {
    /** 400 bytes, and more BOXES than any other text that was found. */
    private static final String MOST_BOXES = "field a named5;field b named5;field c named5;field d named5;field e named5;"
        + "edit a in0-2,4and c in1-4and d in0-2,4and e in0,2;edit b in0,2-4and c in0-2,4and d in0-3and e in1-2,4;"
        + "edit a in0-3and b in0-1,3-4and c in0-3and e in1,3-4;edit a in0,2-4and b in1-4and c in0,2-4and d in0,2,4;"
        + "edit a in1-4and b in0-2,4and c in0-1,3-4and d in1-4and e in0-3;edit a in0-1,3-4and b in0-3and d in0-1,3-4and e in0,3-4;";
    private static final int FIELDS = 5;
    private static final int ALL_VALUES = 31;
    /** An object is used for 512 calls at most; a row takes fewer than the rest. */
    private static final int MOST_CALLS = 300;

    private final String text;
    private EditMender x;
    private Model y;
    private int calls;

    private WidestTest(String text) {
        this.text = text;
        renew();
    }

    public static void main(String[] args) {
        int texts = args.length > 0 ? Integer.parseInt(args[0]) : 12;
        Random random = new Random(args.length > 1 ? Long.parseLong(args[1]) : 1);
        mostBoxes();
        for (int k = 0; k < texts; k++) {
            WidestTest test = new WidestTest(text(random, k % 4));
            test.forms();
            test.rows();
        }
        Check.end();
    }

    private static void mostBoxes() {
        EditMender x = Check.of(MOST_BOXES);
        Check.due("BOXES of the text that has most", 1154, x.boxes());
        Check.due("its FORMS that PASS", 104, x.passing());
        WidestTest test = new WidestTest(MOST_BOXES);
        test.forms();
        int sum = 0;
        for (int k = 0; k < test.y.boxes(); k++) {
            sum += test.y.cover(k, false) == test.x.cover(k, false) ? 0 : 1;
            test.countCall();
        }
        Check.due("BOXES that have other FORMS", 0, sum);
    }

    // ---- calls

    private void renew() {
        x = new EditMender();
        y = new Model();
        calls = ModelTest.tell(x, y, text);
    }

    private void countCall() {
        calls++;
        if (calls > MOST_CALLS) {
            renew();
        }
    }

    private void same(String call, Object... args) {
        ModelTest.compare(x, y, ModelTest.method(call), args, text);
        countCall();
    }

    private void forms() {
        same("boxes");
        same("passing");
        int boxes = y.boxes();
        for (int k = 0; k < boxes; k++) {
            for (int field = -1; field < FIELDS; field++) {
                same("box", k, field);
            }
        }
        // The model tries all FORMS and sets of EDITS for these: some twenty BOXES are enough.
        for (int k = 0; k < boxes; k += 1 + boxes / 20) {
            same("from", k);
            same("cover", k, false);
            same("cover", k, true);
        }
        for (int edit = 0; edit < y.count(1); edit++) {
            same("idle", edit);
        }
    }

    private void rows() {
        for (int row = 0; row < y.count(2); row++) {
            same("fails", row);
            same("blame", row);
            same("forced", row);
            for (int k = 0; k < 4; k++) {
                same("within", row, k);
                same("leastOf", row, k);
                same("least", row, k);
                same("would", row, k);
                same("donor", row, k, false);
                same("donor", row, k, true);
                same("urgent", row);
            }
            for (int set = 0; set < 1 << FIELDS; set++) {
                same("ways", row, set);
                same("values", row, set, set % FIELDS);
            }
            for (int field = 0; field < FIELDS; field++) {
                same("may", row, field);
                same("likely", row, field);
            }
        }
    }

    // ---- texts

    private static String text(Random random, int style) {
        StringBuilder text = new StringBuilder();
        for (int field = 0; field < FIELDS; field++) {
            text.append("field ").append((char) ('a' + field)).append(random.nextBoolean() ? " named5" : " scaled5");
            if (random.nextInt(3) == 0) {
                text.append("weight").append(1 + random.nextInt(4));
            }
            text.append(";");
        }
        if (random.nextInt(3) == 0) {
            text.append("group ").append((char) ('a' + random.nextInt(FIELDS))).append(";");
        }
        int most = style == 0 ? 240 : style == 1 ? 320 : 400;
        for (int edits = 0; edits < 6; edits++) {
            String edit = edit(random, style);
            text.append(text.length() + edit.length() <= most ? edit : "");
        }
        for (String row = row(random); text.length() + row.length() <= 400; row = row(random)) {
            text.append(row);
        }
        return text.toString();
    }

    /** Of style 3 each set lacks one VALUE: such EDITS have the most BOXES. */
    private static String edit(Random random, int style) {
        StringBuilder text = new StringBuilder();
        for (int field = 0; field < FIELDS; field++) {
            int set = style == 3 ? ALL_VALUES & ~(1 << random.nextInt(FIELDS)) : 1 + random.nextInt(ALL_VALUES - 1);
            if (random.nextInt(6) != 0) {
                text.append(text.length() == 0 ? "edit " : "and ").append((char) ('a' + field)).append(" in").append(spans(set));
            }
        }
        return text.length() == 0 ? "" : text.append(";").toString();
    }

    private static String spans(int set) {
        StringBuilder text = new StringBuilder();
        for (int low = 0; low < FIELDS; low++) {
            int high = low;
            while ((set >> high & 1) != 0) {
                high++;
            }
            if (high > low) {
                text.append(text.length() == 0 ? "" : ",").append(low).append(high - 1 > low ? "-" + (high - 1) : "");
                low = high;
            }
        }
        return text.toString();
    }

    private static String row(Random random) {
        StringBuilder text = new StringBuilder("row");
        for (int field = 0; field < FIELDS; field++) {
            text.append(random.nextInt(12) == 0 ? "?" : " " + random.nextInt(FIELDS));
        }
        return text.append(";").toString();
    }
}
