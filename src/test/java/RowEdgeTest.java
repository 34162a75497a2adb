/** The boundaries that 'Terms' 2 and 3 and promises 16 to 31 name for rows: a test for each sentence. */
public final class RowEdgeTest {
    private static final String A = "field a named 3;";
    private static final String AB = "field a named 3;field b scaled 2;";
    private static final String FIVES = "field a named5;field b named5;field c named5;field d named5;field e named5;";
    /** Nothing passes: the first edit has no field of its own. */
    private static final String NOTHING = AB + "edit a in 0-2;edit b in 1;";
    private static final int[] NO_ROWS = {-1, -2, 3, 40, 64, Integer.MIN_VALUE, Integer.MAX_VALUE};
    private static final int[] NO_FIELDS = {-1, 2, 5, Integer.MIN_VALUE, Integer.MAX_VALUE};

    private RowEdgeTest() {
    }

    public static void main(String[] args) {
        missingFails();
        missingDoesNotPass();
        boxesOfRow();
        missingInTheSet();
        emptySet();
        leastWeight();
        fewestFields();
        leastBits();
        noLeast();
        answer();
        tell();
        tellRefused();
        copy();
        copyFull();
        copyRefused();
        drop();
        dropIsGone();
        fails();
        within();
        withinBehind();
        withinMissing();
        may();
        mayByNone();
        mayMissing();
        likely();
        likelyByNone();
        likelyMissing();
        blame();
        blameNone();
        blameMissing();
        mends();
        ways();
        noSet();
        least();
        leastRefused();
        leastOf();
        leastOfBehind();
        values();
        valuesNone();
        forced();
        forcedNone();
        urgent();
        urgentBehind();
        Check.end();
    }

    private interface RowCall {
        Object run(int row);
    }

    private static void noSuchRow(String what, RowCall call) {
        for (int row : NO_ROWS) {
            Check.dueOf(what + " of ROW " + row, Check.INDEX, () -> call.run(row));
        }
    }

    private static void noSuchField(String what, RowCall call) {
        for (int field : NO_FIELDS) {
            Check.dueOf(what + " of FIELD " + field, Check.INDEX, () -> call.run(field));
        }
    }

    // ---- terms

    private static void missingFails() {
        Check.says("A ROW with MISSING ones FAILS an EDIT, if none of that EDIT's FIELDS is MISSING, and all are in its sets");
        EditMender x = Check.of(AB + "edit a in 1;edit a in 1 and b in 1;edit b in 1;edit b in 0-1;row 1?;row ?1;row ??;row 0?;row 1 1;");
        int[] want = {9, 12, 8, 8, 15};
        for (int row = 0; row < 5; row++) {
            Check.due("fails " + row, want[row], x.fails(row));
        }
    }

    private static void missingDoesNotPass() {
        Check.says("it does not PASS");
        EditMender x = Check.of(AB + "row ?0;row 0?;row ??;row 2 1;");
        Check.due("ROWS that PASS", 1, x.count(3));
        x.tell(3, 0, -1);
        Check.due("none", 0, x.count(3));
        x.tell(0, 0, 0);
        Check.due("told again", 1, x.count(3));
    }

    private static void boxesOfRow() {
        Check.says("BLAME of a ROW, none of whose ANSWERS is MISSING: the FIELD that ENTERS the most of the BOXES it is in");
        String text = "field a named 2 weight 9;field b named 2;field c named 2;";
        EditMender x = Check.of(text + "edit a in 1 and b in 1;edit a in 1 and c in 1;row 1 1 1;row 1 1 0;row 1 0 1;");
        Check.due("two BOXES, ahead of WEIGHT", 0, x.blame(0));
        Check.due("one BOX: the least WEIGHT", 1, x.blame(1));
        Check.due("one BOX: the least WEIGHT", 2, x.blame(2));
        EditMender y = Check.of("field a named 2;field b named 2;field c named 2;"
            + "edit a in 1 and b in 1 and c in 1;row 1 1 1;");
        Check.due("then the first", 0, y.blame(0));
        EditMender z = Check.of("field a named 2 weight 3;field b named 2 weight 2;field c named 2 weight 2;"
            + "edit a in 1 and b in 1 and c in 1;row 1 1 1;");
        Check.due("of the least WEIGHT the first", 1, z.blame(0));
    }

    private static void missingInTheSet() {
        Check.says("A set of FIELDS MENDS a ROW, if all that is MISSING is in it");
        EditMender x = Check.of(AB + "row ?0;row ??;row 0 0;");
        boolean[][] want = {{false, true, false, true}, {false, false, false, true}, {true, true, true, true}};
        for (int row = 0; row < 3; row++) {
            for (int set = 0; set < 4; set++) {
                Check.due("mends " + row + " " + set, want[row][set], x.mends(row, set));
            }
        }
    }

    private static void emptySet() {
        Check.says("and there is a FORM that PASSES and is as the ROW in all other FIELDS (the empty set: the ROW itself)");
        EditMender x = Check.of(AB + "edit a in 1;row 0 0;row 1 0;row 0?;");
        Check.due("one that PASSES", true, x.mends(0, 0));
        Check.due("one WAY, as it is", 1, x.ways(0, 0));
        Check.due("one that FAILS", false, x.mends(1, 0));
        Check.due("one with a MISSING one", false, x.mends(2, 0));
    }

    private static final String BOTH = "edit a in 1 and b in 1;edit a in 1 and c in 1;row 1 1 1;";

    private static void leastWeight() {
        Check.says("LEAST of a ROW: the set that MENDS it of the least WEIGHT in all");
        Check.due("two light ones", 6, Check.of("field a named 2 weight 9;field b named 2 weight 4;"
            + "field c named 2 weight 4;" + BOTH).least(0, 0));
        Check.due("one heavy one", 1, Check.of("field a named 2 weight 9;field b named 2 weight 5;"
            + "field c named 2 weight 5;" + BOTH).least(0, 0));
        Check.due("the greatest WEIGHT", 45, Check.of("field a named 2weight9;field b named 2weight9;field c named 2weight9;"
            + "field d named 2weight9;field e named 2weight9;row?????;").least(0, 1));
    }

    private static void fewestFields() {
        Check.says("LEAST: of several the fewest FIELDS");
        Check.due("one", 1, Check.of("field a named 2 weight 8;field b named 2 weight 4;"
            + "field c named 2 weight 4;" + BOTH).least(0, 0));
        Check.due("one behind two", 4, Check.of("field b named 2 weight 4;field c named 2 weight 4;"
            + "field a named 2 weight 8;edit a in 1 and b in 1;edit a in 1 and c in 1;row 1 1 1;").least(0, 0));
    }

    private static void leastBits() {
        Check.says("LEAST: of several then the least as bits");
        Check.due("of one FIELD each", 1, Check.of("field a named 2;field b named 2;"
            + "edit a in 1 and b in 1;row 1 1;").least(0, 0));
        // Fields 0 and 3 would do, too, or 1 and 2, or 2 and 3.
        Check.due("of two FIELDS each", 3, Check.of("field a named 2;field b named 2;field c named 2;field d named 2;"
            + "edit a in 1 and c in 1;edit b in 1 and d in 1;row 1 1 1 1;").least(0, 0));
    }

    private static void noLeast() {
        Check.says("LEAST: none: nothing PASSES");
        EditMender x = Check.of(NOTHING + "row 0 0;row ??;row 2 1;");
        for (int row = 0; row < 3; row++) {
            Check.due("the set", -1, x.least(row, 0));
            Check.due("its WEIGHT", -1, x.least(row, 1));
            Check.due("how many", 0, x.least(row, 2));
            Check.due("the first", -1, x.leastOf(row, 0));
            Check.due("all FIELDS", false, x.mends(row, 3));
            Check.due("donors", -1, x.donor(row, 0, false));
            for (int way = 0; way < 3; way++) {
                Check.due("would", -1, x.would(row, way));
            }
        }
    }

    // ---- promises 16 to 20

    private static void answer() {
        Check.says("answer: An ANSWER; NONE: MISSING");
        EditMender x = Check.of(FIVES + "row 4 ? 0 ? 4;row ? 4 ? 0 ?;row ?????;");
        int[][] want = {{4, -1, 0, -1, 4}, {-1, 4, -1, 0, -1}, {-1, -1, -1, -1, -1}};
        for (int row = 0; row < 3; row++) {
            for (int field = 0; field < 5; field++) {
                Check.due("answer " + row + " " + field, want[row][field], x.answer(row, field));
            }
        }
        noSuchRow("answer", row -> x.answer(row, 0));
        for (int field : new int[] {-1, 5, 6, Integer.MIN_VALUE, Integer.MAX_VALUE}) {
            Check.dueOf("FIELD " + field, Check.INDEX, () -> x.answer(0, field));
        }
    }

    private static void tell() {
        Check.says("tell: An ANSWER is told (NONE: MISSING): what it was");
        EditMender x = Check.of(FIVES + "row 4 4 4 4 4;row 0 0 0 0 0;");
        for (int field = 0; field < 5; field++) {
            Check.due("was the last VALUE", 4, x.tell(0, field, -1));
            Check.due("is MISSING", -1, x.answer(0, field));
            Check.due("was MISSING", -1, x.tell(0, field, 0));
            Check.due("was the first VALUE", 0, x.tell(0, field, 4));
            Check.due("is the last VALUE", 4, x.answer(0, field));
        }
        Check.due("others stay", "44444 00000", Check.allWritten(x));
    }

    private static void tellRefused() {
        Check.says("tell: IndexOutOfBoundsException, IllegalArgumentException: it is none");
        EditMender x = Check.of(AB + "row 0 0;row 2 1;row 1 1;");
        for (int value : new int[] {-2, 3, 5, Integer.MIN_VALUE, Integer.MAX_VALUE}) {
            Check.dueOf("VALUE " + value, Check.ARGUMENT, () -> x.tell(1, 0, value));
            noSuchRow("VALUE " + value, row -> x.tell(row, 0, value));
            noSuchField("VALUE " + value, field -> x.tell(0, field, value));
        }
        Check.dueOf("a VALUE of another FIELD", Check.ARGUMENT, () -> x.tell(1, 1, 2));
        noSuchRow("a VALUE", row -> x.tell(row, 0, 0));
        noSuchField("a VALUE", field -> x.tell(0, field, -1));
        Check.due("nothing is told", "00 21 11", Check.allWritten(x));
        Check.due("no ACT", 0, x.count(5));
    }

    private static void copy() {
        Check.says("copy: A ROW comes, as another one is: its number");
        EditMender x = Check.of(AB + "row 2?;");
        Check.due("the second", 1, x.copy(0));
        Check.due("as it is", "2? 2?", Check.allWritten(x));
        x.tell(0, 0, 1);
        Check.due("one of its own", "1? 2?", Check.allWritten(x));
        Check.due("the third", 2, x.copy(1));
        Check.due("as it is now", "1? 2? 2?", Check.allWritten(x));
    }

    private static EditMender withRows(int count) {
        return Check.of(A + "row0;".repeat(count));
    }

    private static void copyFull() {
        Check.says("copy: IllegalStateException: there are 40");
        EditMender x = withRows(39);
        Check.due("the 40th", 39, x.copy(0));
        for (int row : new int[] {0, 20, 39}) {
            Check.dueOf("of ROW " + row, Check.STATE, () -> x.copy(row));
        }
        Check.due("ROWS", 40, x.count(2));
        Check.due("ACTS", 1, x.count(5));
        x.drop();
        Check.due("again", 39, x.copy(38));
        Check.dueOf("40 of a text", Check.STATE, () -> withRows(40).copy(0));
    }

    private static void copyRefused() {
        Check.says("copy: IndexOutOfBoundsException (ahead of IllegalStateException)");
        EditMender full = withRows(40);
        for (int row : new int[] {-1, 40, 41, Integer.MIN_VALUE, Integer.MAX_VALUE}) {
            Check.dueOf("40 ROWS: ROW " + row, Check.INDEX, () -> full.copy(row));
        }
        EditMender three = withRows(3);
        noSuchRow("copy", row -> three.copy(row));
        Check.dueOf("no ROWS", Check.INDEX, () -> withRows(0).copy(0));
        Check.dueOf("no FIELDS", Check.INDEX, () -> new EditMender().copy(0));
    }

    private static void drop() {
        Check.says("drop: The last ROW goes: how many are left. IllegalStateException: there is none");
        EditMender x = Check.of(AB + "row 0 0;row 1 1;");
        Check.due("one is left", 1, x.drop());
        Check.due("the first", "00", Check.allWritten(x));
        Check.due("none is left", 0, x.drop());
        Check.dueOf("there is none", Check.STATE, x::drop);
        Check.due("ACTS", 2, x.count(5));
        Check.dueOf("a text without ROWS", Check.STATE, () -> Check.of(A).drop());
        Check.dueOf("no FIELDS", Check.STATE, () -> new EditMender().drop());
        Check.due("of 40", 39, withRows(40).drop());
    }

    private static void dropIsGone() {
        Check.says("drop: The last ROW goes (it is asked nowhere)");
        String text = AB + "group b;edit a in 0;row 0 0;row 1 0;row ?0;";
        EditMender with = Check.of(text + "row 2 0;");
        EditMender without = Check.of(text);
        with.drop();
        Check.due("all answers", of(without), of(with));
        EditMender failing = Check.of(text + "row 0?;");
        failing.drop();
        Check.due("all answers", of(without), of(failing));
        Check.due("by way 0", without.mendAll(0), with.mendAll(0));
        Check.due("ROWS", Check.allWritten(without), Check.allWritten(with));
    }

    /** What the calls answer that look at all rows. */
    private static String of(EditMender x) {
        int[] answers = {x.count(2), x.count(3), x.count(4), x.count(10), x.urgent(0), x.urgent(1), x.urgent(2),
            x.donor(0, 0, false), x.donor(0, 1, false), x.donor(2, 0, false), x.donor(2, 1, false), x.would(0, 1),
            x.trial(0, 0), x.trial(0, 1), x.trial(2, 2), x.patterns(), x.pattern(0, 2), x.pattern(1, 2), x.pattern(2, 2),
            x.alike(0, false), x.alike(1, false), x.bunch(-1, 0), x.bunch(-1, 1), x.bunch(-1, -1), x.changes(0),
            x.changes(1), x.unlike(), x.group(0, 0), x.group(0, 1), x.usual(0, 0), x.usual(-1, 0), x.share(0, 1),
            x.share(0, 2), x.likely(0, 0)};
        return java.util.Arrays.toString(answers);
    }

    private static void fails() {
        Check.says("fails: Which EDITS a ROW FAILS (bits)");
        EditMender x = Check.of(A + "edit a in 1;".repeat(5) + "edit a in 1-2;row 0;row 1;row 2;");
        Check.due("none", 0, x.fails(0));
        Check.due("all six", 63, x.fails(1));
        Check.due("the last", 32, x.fails(2));
        noSuchRow("fails", row -> x.fails(row));
    }

    // ---- promises 21 to 24

    private static final String WITHIN = AB + "edit a in 0-1;edit b in 1;row 0 1;row 2 1;row 2 0;";

    private static void within() {
        Check.says("within: Which BOXES a ROW is in: the k-th number");
        EditMender x = Check.of(WITHIN);
        int[][] want = {{0, 1, -1}, {1, -1, -1}, {-1, -1, -1}};
        for (int row = 0; row < 3; row++) {
            for (int k = 0; k < 3; k++) {
                Check.due("within " + row + " " + k, want[row][k], x.within(row, k));
            }
        }
        Check.due("no BOXES", -1, Check.of(AB + "row 0 0;").within(0, 0));
    }

    private static void withinBehind() {
        Check.says("within: NONE behind");
        EditMender x = Check.of(WITHIN);
        for (int row = 0; row < 3; row++) {
            Check.due("ahead of them", -1, x.within(row, -1));
            for (int k : Check.far()) {
                Check.due("number " + k, -1, x.within(row, k));
            }
        }
    }

    private static void withinMissing() {
        Check.says("within: IndexOutOfBoundsException, IllegalStateException: one is MISSING");
        EditMender x = Check.of(AB + "row ?0;row 0?;row ??;");
        for (int row = 0; row < 3; row++) {
            int that = row;
            Check.dueOf("ROW " + row, Check.STATE, () -> x.within(that, 0));
            Check.dueOf("ROW " + row + ", behind", Check.STATE, () -> x.within(that, -1));
        }
        noSuchRow("within", row -> x.within(row, 0));
    }

    private static void may() {
        Check.says("MAY in a FIELD of a ROW: the VALUES by which, all other ANSWERS as they are, it would PASS");
        EditMender x = Check.of(AB + "edit a in 1 and b in 0;row 0 0;row 1 0;row ?1;");
        Check.due("its own too", 5, x.may(0, 0));
        Check.due("others alone", 5, x.may(1, 0));
        Check.due("it is MISSING itself", 7, x.may(2, 0));
        Check.due("of another FIELD", 2, x.may(1, 1));
        Check.due("all, as there are no EDITS", 31, Check.of(FIVES + "row 0 0 0 0?;").may(0, 4));
    }

    private static void mayByNone() {
        Check.says("MAY: by no VALUE (0)");
        EditMender x = Check.of(AB + "edit a in 1;row 1 0;row 1?;row 0 0;");
        Check.due("another FIELD is wrong", 0, x.may(0, 1));
        Check.due("MISSING here, wrong there", 0, x.may(1, 1));
        Check.due("nothing PASSES", 0, Check.of(NOTHING + "row 0 0;").may(0, 0));
    }

    private static void mayMissing() {
        Check.says("may: IndexOutOfBoundsException, IllegalStateException: an ANSWER in another FIELD is MISSING");
        EditMender x = Check.of(AB + "row ?0;row 0?;row ??;");
        Check.due("in this one", 7, x.may(0, 0));
        Check.dueOf("in the first", Check.STATE, () -> x.may(0, 1));
        Check.dueOf("in the last", Check.STATE, () -> x.may(1, 0));
        Check.due("in this one", 3, x.may(1, 1));
        Check.dueOf("in both", Check.STATE, () -> x.may(2, 0));
        Check.dueOf("in both", Check.STATE, () -> x.may(2, 1));
        noSuchRow("may", row -> x.may(row, 0));
        noSuchRow("may of no FIELD", row -> x.may(row, 9));
        noSuchField("may", field -> x.may(2, field));
    }

    private static void likely() {
        Check.says("LIKELY in a FIELD of a ROW: of MAY the VALUE of the greatest SHARE, of several the least");
        String text = "field a named 5;field b named 2;edit a in 4 and b in 1;";
        EditMender x = Check.of(text + "row 4 0;row 4 0;row 3 0;row 2 0;row ?1;");
        Check.due("not one that is not of MAY; of several the least", 2, x.likely(4, 0));
        Check.due("the greatest SHARE", 4, Check.of(text + "row 4 0;row 3 0;row 4 0;row 2 0;row ?0;").likely(4, 0));
        Check.due("one ROW more", 3, Check.of(text + "row 1 0;row 3 0;row 3 0;row 1 0;row 3 0;row ?0;").likely(5, 0));
        Check.due("of the last FIELD", 1, Check.of(AB + "row 0 1;row 0 0;row 1 1;row 0?;").likely(3, 1));
        Check.due("SHARES of 0: the least of MAY", 0, Check.of(text + "row ?0;").likely(0, 0));
        Check.due("what others have is not of MAY", 0, Check.of(text + "row 4 0;row ?1;").likely(1, 0));
    }

    private static void likelyByNone() {
        Check.says("likely: NONE: by none");
        EditMender x = Check.of(AB + "edit a in 1;row 1 0;row 1?;row 0 0;");
        Check.due("another FIELD is wrong", -1, x.likely(0, 1));
        Check.due("MISSING here, wrong there", -1, x.likely(1, 1));
        Check.due("nothing PASSES", -1, Check.of(NOTHING + "row 0 0;").likely(0, 0));
    }

    private static void likelyMissing() {
        Check.says("likely: IndexOutOfBoundsException, IllegalStateException: as of may()");
        EditMender x = Check.of(AB + "row ?0;row 0?;row ??;");
        Check.due("in this one", 0, x.likely(0, 0));
        Check.dueOf("in the first", Check.STATE, () -> x.likely(0, 1));
        Check.dueOf("in the last", Check.STATE, () -> x.likely(1, 0));
        Check.dueOf("in both", Check.STATE, () -> x.likely(2, 0));
        noSuchRow("likely", row -> x.likely(row, 0));
        noSuchField("likely", field -> x.likely(2, field));
    }

    private static void blame() {
        Check.says("blame: BLAME");
        EditMender x = Check.of("field a named 2;field b named 2;field c named 2;field d named 2;field e named 2;"
            + "edit e in 1;row 1 1 1 1 1;");
        Check.due("the last FIELD", 4, x.blame(0));
    }

    private static void blameNone() {
        Check.says("BLAME: none, if none ENTERS one; blame: NONE: none");
        Check.due("one that PASSES", -1, Check.of(AB + "edit a in 1;row 0 0;").blame(0));
        Check.due("no EDITS", -1, Check.of(AB + "row 0 0;").blame(0));
        Check.due("the BOX of all FORMS", -1, Check.of(NOTHING + "row 0 1;").blame(0));
    }

    private static void blameMissing() {
        Check.says("blame: IndexOutOfBoundsException, IllegalStateException: an ANSWER is MISSING");
        EditMender x = Check.of(AB + "row ?0;row 0?;row ??;");
        for (int row = 0; row < 3; row++) {
            int that = row;
            Check.dueOf("ROW " + row, Check.STATE, () -> x.blame(that));
        }
        noSuchRow("blame", row -> x.blame(row));
    }

    // ---- promises 25 to 29

    private static void mends() {
        Check.says("mends: Whether a set of FIELDS MENDS a ROW");
        EditMender x = Check.of(FIVES + "edit a in 0 and e in 0;row 0 0 0 0 0;row 1 1 1 1 1;");
        for (int set = 0; set < 32; set++) {
            Check.due("mends 0 " + set, (set & 17) != 0, x.mends(0, set));
            Check.due("mends 1 " + set, true, x.mends(1, set));
        }
    }

    private static void ways() {
        Check.says("ways: How many WAYS there are by a set of FIELDS (0: it does not MEND)");
        EditMender x = Check.of(FIVES + "edit a in 0 and e in 0;row 0 0 0 0 0;row ? 0 0 0 0;row ?????;");
        Check.due("the empty set", 0, x.ways(0, 0));
        Check.due("not MENDED", 0, x.ways(0, 14));
        Check.due("one FIELD", 4, x.ways(0, 16));
        Check.due("all FIELDS", 3000, x.ways(0, 31));
        Check.due("all MISSING", 3000, x.ways(2, 31));
        Check.due("not all that is MISSING", 0, x.ways(2, 30));
        Check.due("not what is MISSING", 0, x.ways(1, 16));
        Check.due("what is MISSING", 4, x.ways(1, 1));
    }

    private static void noSet() {
        Check.says("mends, ways, values: IndexOutOfBoundsException, IllegalArgumentException: the set is none");
        EditMender x = Check.of(AB + "row 0 0;row 1 1;row 2 1;");
        for (int set : new int[] {-1, -2, 4, 5, 7, 8, 31, 32, Integer.MIN_VALUE, Integer.MIN_VALUE + 3, Integer.MAX_VALUE}) {
            Check.dueOf("mends " + set, Check.ARGUMENT, () -> x.mends(0, set));
            Check.dueOf("ways " + set, Check.ARGUMENT, () -> x.ways(0, set));
            Check.dueOf("values " + set, Check.ARGUMENT, () -> x.values(0, set, 0));
            noSuchRow("mends by " + set, row -> x.mends(row, set));
            noSuchRow("ways by " + set, row -> x.ways(row, set));
            noSuchRow("values by " + set, row -> x.values(row, set, 0));
            noSuchField("values by " + set, field -> x.values(0, set, field));
        }
        noSuchField("values by a set", field -> x.values(0, 3, field));
        EditMender five = Check.of(FIVES + "row 0 0 0 0 0;");
        Check.due("all five", true, five.mends(0, 31));
        Check.dueOf("a sixth", Check.ARGUMENT, () -> five.mends(0, 32));
    }

    private static void least() {
        Check.says("least: LEAST: what 0 the set (NONE), 1 its WEIGHT (NONE), 2 how many sets MEND it by that WEIGHT");
        EditMender x = Check.of("field a named 2 weight 2;field b named 2;field c named 2;" + BOTH + "row 0 0 0;row ???;");
        int[][] want = {{1, 2, 2}, {0, 0, 1}, {7, 4, 1}};
        for (int row = 0; row < 3; row++) {
            for (int what = 0; what < 3; what++) {
                Check.due("least " + row + " " + what, want[row][what], x.least(row, what));
            }
        }
    }

    private static void leastRefused() {
        Check.says("least: IndexOutOfBoundsException, NoSuchElementException: another what");
        EditMender x = Check.of(AB + "row 0 0;row 1 1;row 2 1;");
        for (int what : new int[] {-1, 3, Integer.MIN_VALUE, Integer.MAX_VALUE}) {
            Check.dueOf("what " + what, Check.NO_SUCH, () -> x.least(0, what));
            noSuchRow("least, what " + what, row -> x.least(row, what));
        }
        noSuchRow("least", row -> x.least(row, 0));
        EditMender none = Check.of(NOTHING + "row 0 0;");
        Check.dueOf("nothing PASSES", Check.NO_SUCH, () -> none.least(0, 3));
    }

    private static void leastOf() {
        Check.says("leastOf: The k-th set that MENDS a ROW by the WEIGHT of LEAST, the least as bits first");
        EditMender x = Check.of("field a named 2;field b named 2;field c named 2 weight 2;"
            + "edit a in 1 and c in 1;edit b in 1 and c in 1;row 1 1 1;");
        Check.due("the fewest FIELDS", 4, x.least(0, 0));
        Check.due("the least as bits is another one", 3, x.leastOf(0, 0));
        Check.due("then", 4, x.leastOf(0, 1));
    }

    private static void leastOfBehind() {
        Check.says("leastOf: NONE behind them");
        EditMender x = Check.of(AB + "edit a in 0 and b in 0;row 0 0;row 2 1;row ??;");
        int[][] want = {{1, 2, -1}, {0, -1, -1}, {3, -1, -1}};
        for (int row = 0; row < 3; row++) {
            for (int k = 0; k < 3; k++) {
                Check.due("leastOf " + row + " " + k, want[row][k], x.leastOf(row, k));
            }
            Check.due("ahead of them", -1, x.leastOf(row, -1));
            for (int k : Check.far()) {
                Check.due("number " + k, -1, x.leastOf(row, k));
            }
        }
        noSuchRow("leastOf", row -> x.leastOf(row, -1));
    }

    private static void values() {
        Check.says("values: VALUES that a FIELD has in the WAYS by a set of FIELDS (bits)");
        EditMender x = Check.of(AB + "edit a in 1 and b in 1;row 1 1;row ?1;row 2 0;");
        Check.due("of the set", 5, x.values(0, 1, 0));
        Check.due("not of the set: as it is", 2, x.values(0, 1, 1));
        Check.due("all FIELDS", 7, x.values(0, 3, 0));
        Check.due("MISSING", 5, x.values(1, 1, 0));
        Check.due("the empty set: as it is", 4, x.values(2, 0, 0));
        Check.due("the empty set: as it is", 1, x.values(2, 0, 1));
    }

    private static void valuesNone() {
        Check.says("values: 0: there are none");
        EditMender x = Check.of(AB + "edit a in 1;row 1 1;row ?1;row 1?;");
        Check.due("the empty set", 0, x.values(0, 0, 0));
        Check.due("another set", 0, x.values(0, 2, 1));
        Check.due("FIELDS not of that set", 0, x.values(0, 2, 0));
        Check.due("what is MISSING is not of the set", 0, x.values(1, 2, 0));
        Check.due("what is MISSING is all of the set", 0, x.values(2, 2, 1));
        Check.due("nothing PASSES", 0, Check.of(NOTHING + "row 0 0;").values(0, 3, 0));
    }

    // ---- promises 30, 31

    private static void forced() {
        Check.says("FORCED in a ROW: those FIELDS of LEAST that have one VALUE in all its WAYS");
        EditMender x = Check.of(AB + "edit a in 1-2 and b in 1;row 1 1;row ?1;row 2 1;");
        Check.due("LEAST", 1, x.least(0, 0));
        Check.due("one VALUE", 1, x.forced(0));
        Check.due("MISSING", 1, x.forced(1));
        EditMender y = Check.of("field a named 3;field b named 3 weight 9;edit a in 1 and b in 1;edit a in 0;row 1 0;row ?0;row ?1;");
        Check.due("two VALUES", 0, y.forced(1));
        Check.due("one VALUE", 1, y.forced(2));
        EditMender z = Check.of(AB + "edit a in 0-1;edit b in 1;row 0 1;row ??;");
        Check.due("both", 3, z.forced(0));
        Check.due("both MISSING", 3, z.forced(1));
        noSuchRow("forced", row -> x.forced(row));
    }

    private static void forcedNone() {
        Check.says("forced: (bits; 0 where there is no LEAST)");
        EditMender x = Check.of(NOTHING + "row 0 0;row ??;row ?1;");
        for (int row = 0; row < 3; row++) {
            Check.due("ROW " + row, 0, x.forced(row));
        }
        Check.due("one that PASSES: LEAST has no FIELDS", 0, Check.of(AB + "row 0 0;").forced(0));
    }

    private static void urgent() {
        Check.says("URGENT: ROWS that do not PASS, by how many EDITS they FAIL, the most first,"
            + " then by the WEIGHT of LEAST, the greatest first (none: ahead of all others), then by numbers");
        EditMender x = Check.of("field a named 3 weight 9;field b named 2;edit a in 0;edit a in 0 and b in 0;edit b in 1;"
            + "row ?0;row 1 1;row 0 0;row 1?;row 0 1;row ??;row 1 0;row ?1;row 2 1;");
        // Edits failed: 0 1 2 0 2 0 (passes) 1 1; weights of the least sets: 9 1 9 1 10 10 - 10 1.
        int[] want = {4, 2, 7, 1, 8, 5, 0, 3};
        for (int k = 0; k < want.length; k++) {
            Check.due("urgent " + k, want[k], x.urgent(k));
        }
        EditMender y = Check.of(NOTHING + "row ??;row 0 0;row 0 1;row ?1;row 2 0;");
        int[] none = {2, 3, 0, 1, 4};
        for (int k = 0; k < none.length; k++) {
            Check.due("no LEAST: urgent " + k, none[k], y.urgent(k));
        }
        EditMender z = Check.of(A + "edit a in 0;edit a in 1-2;row ?;row 0;");
        Check.due("no LEAST, an EDIT failed", 1, z.urgent(0));
        Check.due("no LEAST, no EDIT failed", 0, z.urgent(1));
    }

    private static void urgentBehind() {
        Check.says("urgent: NONE behind");
        EditMender x = Check.of(AB + "edit a in 0;row 0 0;row 1 1;row ?0;");
        Check.due("the last", 2, x.urgent(1));
        Check.due("behind", -1, x.urgent(2));
        Check.due("ahead", -1, x.urgent(-1));
        for (int k : Check.far()) {
            Check.due("number " + k, -1, x.urgent(k));
        }
        Check.due("all PASS", -1, Check.of(AB + "row 0 0;").urgent(0));
        Check.due("no ROWS", -1, Check.of(AB).urgent(0));
        Check.due("no FIELDS", -1, new EditMender().urgent(0));
        EditMender all = Check.of("field a named 2;edit a in 0;" + "row0;".repeat(40));
        Check.due("the 40th", 39, all.urgent(39));
        Check.due("behind 40", -1, all.urgent(40));
    }
}
