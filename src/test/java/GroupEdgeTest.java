/** The boundaries that 'Terms' 3 and promises 38 to 50 name for groups of rows: a test for each sentence. */
public final class GroupEdgeTest {
    private static final String A = "field a named 3;";
    private static final String AB = "field a named 3;field b scaled 5;";
    private static final String NOTHING = AB + "edit a in 0-2;row 0 0;row ??;row 2 4;";
    private static final int[] NO_ROWS = {-1, -2, 3, 40, Integer.MIN_VALUE, Integer.MAX_VALUE};
    private static final int[] NO_FIELDS = {-1, 2, 5, Integer.MIN_VALUE, Integer.MAX_VALUE};

    private GroupEdgeTest() {
    }

    public static void main(String[] args) {
        patternEach();
        patternOrder();
        pattern();
        patternRefused();
        patterns();
        alike();
        alikeRefused();
        nearMissing();
        nearMissingBoth();
        near();
        nearRefused();
        bunchSteps();
        bunchNumbers();
        bunchAny();
        bunchRefused();
        changes();
        changesPassing();
        unlike();
        group();
        groupNone();
        groupRefused();
        usual();
        usualSeveral();
        usualNone();
        usualAll();
        usualRefused();
        share();
        shareWithout();
        shareRefused();
        write();
        writeRefused();
        octet();
        octetNone();
        counts();
        countPassing();
        countActs();
        countMendable();
        countNone();
        Check.end();
    }

    private static void noSuchRow(String what, java.util.function.IntFunction<Object> call) {
        for (int row : NO_ROWS) {
            Check.dueOf(what + " of ROW " + row, Check.INDEX, () -> call.apply(row));
        }
    }

    private static void noSuchField(String what, java.util.function.IntFunction<Object> call) {
        for (int field : NO_FIELDS) {
            Check.dueOf(what + " of FIELD " + field, Check.INDEX, () -> call.apply(field));
        }
    }

    // ---- patterns

    private static void patternEach() {
        Check.says("PATTERNS: sets of EDITS that ROWS FAIL, with which FIELDS are MISSING; each unlike one");
        EditMender x = Check.of(AB + "edit a in 0;row 0?;row 0 1;row 1?;row ?1;row 1 1;row ??;row 0 4;row ?0;");
        int[][] want = {{1, 2, 1, 0}, {1, 0, 2, 1}, {0, 2, 1, 2}, {0, 1, 2, 3}, {0, 0, 1, 4}, {0, 3, 1, 5}};
        Check.due("patterns", 6, x.patterns());
        for (int k = 0; k < 6; k++) {
            for (int what = 0; what < 4; what++) {
                Check.due("pattern " + k + " " + what, want[k][what], x.pattern(k, what));
            }
        }
    }

    private static void patternOrder() {
        Check.says("PATTERNS: in the order of their first ROWS");
        EditMender x = Check.of(A + "edit a in 0;edit a in 1;row 2;row 1;row 0;row 1;row 2;");
        int[] want = {0, 2, 1};
        for (int k = 0; k < 3; k++) {
            Check.due("EDITS of " + k, want[k], x.pattern(k, 0));
            Check.due("first ROW of " + k, k, x.pattern(k, 3));
        }
        x.tell(0, 0, 1);
        Check.due("the first one now", 2, x.pattern(0, 0));
        Check.due("its ROWS", 3, x.pattern(0, 2));
        Check.due("the last one now", 0, x.pattern(2, 0));
        Check.due("its first ROW", 4, x.pattern(2, 3));
    }

    private static void pattern() {
        Check.says("pattern: what 0 EDITS (bits), 1 MISSING ones (bits), 2 how many ROWS, 3 the first of them");
        EditMender x = Check.of("field a named5;field b named5;field c named5;field d named5;field e named5;"
            + "edit a in 0-4;".repeat(6) + "row 0 0 0 0 0;" + "row?????;".repeat(24));
        int[][] want = {{63, 0, 1, 0}, {63, 31, 24, 1}};
        for (int k = 0; k < 2; k++) {
            for (int what = 0; what < 4; what++) {
                Check.due("pattern " + k + " " + what, want[k][what], x.pattern(k, what));
            }
        }
    }

    private static void patternRefused() {
        Check.says("pattern: NoSuchElementException: there is none such, another what");
        EditMender x = Check.of(A + "edit a in 0;row 0;row 1;row 0;");
        for (int k : new int[] {-1, 2, 3, 40, Integer.MIN_VALUE, Integer.MAX_VALUE}) {
            Check.dueOf("PATTERN " + k, Check.NO_SUCH, () -> x.pattern(k, 0));
        }
        for (int what : new int[] {-1, 4, 5, Integer.MIN_VALUE, Integer.MAX_VALUE}) {
            Check.dueOf("what " + what, Check.NO_SUCH, () -> x.pattern(1, what));
        }
        Check.dueOf("no ROWS", Check.NO_SUCH, () -> Check.of(A).pattern(0, 0));
        Check.dueOf("no FIELDS", Check.NO_SUCH, () -> new EditMender().pattern(0, 0));
    }

    private static void patterns() {
        Check.says("patterns: How many PATTERNS there are");
        Check.due("no FIELDS", 0, new EditMender().patterns());
        Check.due("no ROWS", 0, Check.of(A).patterns());
        Check.due("all that PASS are one", 1, Check.of(A + "row 0;row 1;row 2;").patterns());
        EditMender x = Check.of("field a named 2;field b named 2;field c named 2;field d named 2;field e named 2;"
            + "row 0 0 0 0 0;");
        for (int set = 1; set < 32; set++) {
            int row = x.copy(0);
            for (int field = 0; field < 5; field++) {
                if ((set >> field & 1) != 0) {
                    x.tell(row, field, -1);
                }
            }
        }
        Check.due("all sets of MISSING ones", 32, x.patterns());
        Check.due("the last", 31, x.pattern(31, 1));
    }

    // ---- alike, near

    private static void alike() {
        Check.says("ALIKE are ROWS of the same ANSWERS; alike: How many ROWS are ALIKE to a ROW, it too;"
            + " or (first) the first of these");
        EditMender x = Check.of(AB + "row 0 1;row ?1;row 0 1;row 1 0;row ?1;row ??;");
        int[] alike = {2, 2, 2, 1, 2, 1};
        int[] first = {0, 1, 0, 3, 1, 5};
        for (int row = 0; row < 6; row++) {
            Check.due("alike " + row, alike[row], x.alike(row, false));
            Check.due("first " + row, first[row], x.alike(row, true));
        }
        EditMender all = Check.of("field a named 2;" + "row?;".repeat(40));
        Check.due("all 40", 40, all.alike(39, false));
        Check.due("the first", 0, all.alike(39, true));
    }

    private static void alikeRefused() {
        Check.says("alike: IndexOutOfBoundsException: no such ROW");
        EditMender x = Check.of(A + "row 0;row 1;row 0;");
        noSuchRow("alike", row -> x.alike(row, false));
        noSuchRow("alike, first", row -> x.alike(row, true));
        Check.dueOf("no ROWS", Check.INDEX, () -> Check.of(A).alike(0, true));
    }

    private static void nearMissing() {
        Check.says("NEAR: where just one is MISSING, by how many VALUES there are, or 1, if it is named");
        EditMender x = Check.of("field a scaled 2;field b named 5;field c scaled 5;field d named 2 weight 9;"
            + "field e scaled 4 weight 9;row 0 0 0 0 0;");
        int[] want = {2, 1, 5, 9, 36};
        for (int field = 0; field < 5; field++) {
            int row = x.copy(0);
            x.tell(row, field, -1);
            Check.due("FIELD " + field, want[field], x.near(0, row));
            Check.due("FIELD " + field + ", the other one MISSING", want[field], x.near(row, 0));
        }
        Check.due("two FIELDS", 41, x.near(3, 5));
    }

    private static void nearMissingBoth() {
        Check.says("NEAR: both: not at all");
        EditMender x = Check.of(AB + "row ??;row ??;row ?4;row 2?;row ?0;");
        Check.due("in all FIELDS", 0, x.near(0, 1));
        Check.due("in one FIELD", 4, x.near(2, 4));
        Check.due("one in each", 6, x.near(2, 3));
    }

    private static void near() {
        Check.says("NEAR are two ROWS by how FAR they are in all FIELDS (as told, LEAST empty)");
        EditMender x = Check.of("field a scaled5weight9;field b scaled5weight9;field c scaled5weight9;"
            + "field d scaled5weight9;field e scaled5weight9;edit a in 0;row 0 0 0 0 0;row 4 4 4 4 4;row?????;row 1 4 4 4 4;");
        Check.due("the farthest VALUES", 180, x.near(0, 1));
        Check.due("the other way round", 180, x.near(1, 0));
        Check.due("all MISSING in one", 225, x.near(0, 2));
        Check.due("a FIELD of LEAST counts too", 153, x.near(0, 3));
        for (int row = 0; row < 4; row++) {
            Check.due("a ROW and itself", 0, x.near(row, row));
        }
    }

    private static void nearRefused() {
        Check.says("near: IndexOutOfBoundsException: no such ROW");
        EditMender x = Check.of(AB + "row 0 0;row 1 1;row 2 2;");
        noSuchRow("the first", row -> x.near(row, 0));
        noSuchRow("the other", row -> x.near(0, row));
        noSuchRow("both", row -> x.near(row, row));
    }

    // ---- bunches

    private static void bunches(EditMender x, int n, int count, int... want) {
        Check.due("how many by " + n, count, x.bunch(-1, n));
        for (int row = 0; row < want.length; row++) {
            Check.due("by " + n + " ROW " + row, want[row], x.bunch(row, n));
        }
    }

    private static void bunchSteps() {
        Check.says("BUNCHES by n: ROWS that come to one another by steps between ROWS that are NEAR by n or less");
        bunches(Check.of("field b scaled 5;row 0;row 4;row 3;row 1;row 2;"), 1, 1, 0, 0, 0, 0, 0);
        bunches(Check.of("field b scaled 5;row 0;row 4;row 3;row 1;row 1;"), 1, 2, 0, 1, 1, 0, 0);
        bunches(Check.of("field b scaled 5;row 0;row 3;"), 2, 2, 0, 1);
        bunches(Check.of("field b scaled 5;row 0;row 3;"), 3, 1, 0, 0);
    }

    private static void bunchNumbers() {
        Check.says("BUNCHES: numbered by their first ROWS");
        bunches(Check.of("field b scaled 5;row 4;row 0;row 2;row 0;row 2;row 4;"), 0, 3, 0, 1, 2, 1, 2, 0);
        bunches(Check.of("field b scaled 5;row ?;row 4;row ?;row 3;"), 4, 2, 0, 1, 0, 1);
        EditMender x = Check.of("field a named 2;" + "row0;".repeat(40));
        Check.due("40 of their own", 40, x.bunch(-1, -1));
        Check.due("the last one", 39, x.bunch(39, -1));
        Check.due("one of all", 1, x.bunch(-1, 0));
        Check.due("the last one", 0, x.bunch(39, 0));
        Check.due("40 again", 40, x.bunch(-1, -1));
        EditMender y = Check.of("field b scaled 5;row 0;row 4;row 0;");
        bunches(y, 4, 1, 0, 0, 0);
        bunches(y, 3, 2, 0, 1, 0);
        bunches(y, -1, 3, 0, 1, 2);
    }

    private static void bunchAny() {
        Check.says("bunch: BUNCHES by n (any): how many (row NONE), or in which a ROW is");
        EditMender x = Check.of(AB + "row 0 0;row 0 0;row 2 4;");
        bunches(x, -1, 3, 0, 1, 2);
        bunches(x, Integer.MIN_VALUE, 3, 0, 1, 2);
        bunches(x, 0, 2, 0, 0, 1);
        bunches(x, 4, 2, 0, 0, 1);
        bunches(x, 5, 1, 0, 0, 0);
        bunches(x, Integer.MAX_VALUE, 1, 0, 0, 0);
        bunches(Check.of(AB), 0, 0);
        bunches(new EditMender(), Integer.MAX_VALUE, 0);
    }

    private static void bunchRefused() {
        Check.says("bunch: IndexOutOfBoundsException: no such ROW (NONE is how many)");
        EditMender x = Check.of(AB + "row 0 0;row 1 1;row 2 2;");
        for (int row : NO_ROWS) {
            if (row != EditMender.NONE) {
                Check.dueOf("ROW " + row, Check.INDEX, () -> x.bunch(row, 0));
                Check.dueOf("ROW " + row, Check.INDEX, () -> x.bunch(row, -1));
            }
        }
        Check.dueOf("no ROWS", Check.INDEX, () -> Check.of(AB).bunch(0, 0));
    }

    // ---- changes, unlike

    private static void changes() {
        Check.says("changes: In how many ROWS that do not PASS a FIELD is in LEAST");
        EditMender x = Check.of(AB + "edit a in 0;edit b in 4;row 0 4;row 0 0;row ?4;row ??;row 1 1;");
        Check.due("FIELD 0", 4, x.changes(0));
        Check.due("FIELD 1", 3, x.changes(1));
        noSuchField("changes", field -> x.changes(field));
        Check.due("all 40", 40, Check.of("field a named 2;" + "row?;".repeat(40)).changes(0));
    }

    private static void changesPassing() {
        Check.says("changes: (none, where all PASS, where nothing PASSES, where there are no ROWS)");
        for (int field = 0; field < 2; field++) {
            Check.due("all PASS", 0, Check.of(AB + "row 0 0;row 1 1;").changes(field));
            Check.due("nothing PASSES", 0, Check.of(NOTHING).changes(field));
            Check.due("no ROWS", 0, Check.of(AB).changes(field));
        }
    }

    private static void unlike() {
        Check.says("unlike: How many unlike ROWS there are");
        Check.due("no FIELDS", 0, new EditMender().unlike());
        Check.due("no ROWS", 0, Check.of(AB).unlike());
        Check.due("all the same", 1, Check.of("field a named 2;" + "row?;".repeat(40)).unlike());
        EditMender x = Check.of(AB + "row 0 1;row 1 0;row ?0;row 0?;row ??;row 1 0;row ?0;");
        Check.due("MISSING is an ANSWER of its own", 5, x.unlike());
        x.tell(6, 0, 2);
        Check.due("one more", 6, x.unlike());
    }

    // ---- groups

    private static final String GROUPS = AB + "group a;edit b in 0;row 0 1;row 0 0;row ?1;row 1?;row 0 4;";

    private static void group() {
        Check.says("group: Of a GROUP what 0 how many ROWS are in it, 1 how many of them PASS");
        EditMender x = Check.of(GROUPS);
        int[][] want = {{3, 2}, {1, 0}, {0, 0}};
        for (int value = 0; value < 3; value++) {
            for (int what = 0; what < 2; what++) {
                Check.due("group " + value + " " + what, want[value][what], x.group(value, what));
            }
        }
        Check.due("no ROWS", 0, Check.of(AB + "group b;").group(4, 0));
    }

    private static void groupNone() {
        Check.says("group: IllegalStateException (ahead of IllegalArgumentException): there are no GROUPS");
        for (int number : new int[] {-1, 0, 2, 5, Integer.MIN_VALUE, Integer.MAX_VALUE}) {
            Check.dueOf("no GROUPS", Check.STATE, () -> Check.of(AB + "row 0 0;").group(number, 0));
            Check.dueOf("no GROUPS", Check.STATE, () -> Check.of(AB + "row 0 0;").group(0, number));
            Check.dueOf("no FIELDS", Check.STATE, () -> new EditMender().group(number, number));
        }
    }

    private static void groupRefused() {
        Check.says("group: IllegalArgumentException: the VALUE is none; NoSuchElementException: another what");
        EditMender x = Check.of(GROUPS);
        for (int value : new int[] {-1, 3, 4, Integer.MIN_VALUE, Integer.MAX_VALUE}) {
            Check.dueOf("VALUE " + value, Check.ARGUMENT, () -> x.group(value, 0));
            Check.dueOf("VALUE " + value + ", another what", Check.ARGUMENT, () -> x.group(value, 2));
        }
        for (int what : new int[] {-1, 2, Integer.MIN_VALUE, Integer.MAX_VALUE}) {
            Check.dueOf("what " + what, Check.NO_SUCH, () -> x.group(0, what));
        }
    }

    private static void usual() {
        Check.says("USUAL in a GROUP for a FIELD: the VALUE that most ROWS of it that PASS have");
        EditMender x = Check.of(AB + "group a;edit b in 0;row 0 0;row 0 0;row 0 3;row 1 4;row 1 4;row 0 3;row 0 2;row ?4;");
        Check.due("ROWS that do not PASS count not", 3, x.usual(0, 1));
        Check.due("the last VALUE", 4, x.usual(1, 1));
        Check.due("of the FIELD of GROUPS", 1, x.usual(1, 0));
    }

    private static void usualSeveral() {
        Check.says("USUAL: of several the least");
        EditMender x = Check.of(AB + "group a;row 1 4;row 1 2;row 1 2;row 0 3;row 1 4;row 0 1;row 2 4;");
        Check.due("two each", 2, x.usual(1, 1));
        Check.due("one each", 1, x.usual(0, 1));
        Check.due("one", 4, x.usual(2, 1));
    }

    private static void usualNone() {
        Check.says("USUAL: none; usual: NONE: none");
        EditMender x = Check.of(GROUPS);
        Check.due("none of it PASSES", -1, x.usual(1, 0));
        Check.due("no ROW is in it", -1, x.usual(2, 1));
        Check.due("nothing PASSES", -1, Check.of(NOTHING).usual(-1, 0));
        Check.due("no ROWS", -1, Check.of(AB + "group a;").usual(0, 0));
        Check.due("no ROWS at all", -1, Check.of(AB).usual(-1, 1));
    }

    private static void usualAll() {
        Check.says("USUAL in a GROUP (NONE: all ROWS)");
        EditMender x = Check.of(AB + "group a;row 0 1;row 1 4;row 2 4;row 0 1;row 1 4;");
        Check.due("all ROWS", 4, x.usual(-1, 1));
        Check.due("one GROUP", 1, x.usual(0, 1));
        Check.due("without GROUPS", 4, Check.of(AB + "row 0 1;row 1 4;row 2 4;").usual(-1, 1));
    }

    private static void usualRefused() {
        Check.says("usual: IndexOutOfBoundsException, IllegalStateException: a GROUP is told, and there are none;"
            + " IllegalArgumentException (behind that): the GROUP is none");
        EditMender x = Check.of(GROUPS);
        EditMender none = Check.of(AB + "row 0 0;");
        for (int group : new int[] {-2, 3, 4, Integer.MIN_VALUE, Integer.MAX_VALUE}) {
            Check.dueOf("GROUP " + group, Check.ARGUMENT, () -> x.usual(group, 0));
            Check.dueOf("no GROUPS, GROUP " + group, Check.STATE, () -> none.usual(group, 0));
            noSuchField("GROUP " + group, field -> x.usual(group, field));
            noSuchField("no GROUPS, GROUP " + group, field -> none.usual(group, field));
        }
        Check.dueOf("no GROUPS", Check.STATE, () -> none.usual(0, 0));
        noSuchField("all ROWS", field -> none.usual(-1, field));
    }

    private static void share() {
        Check.says("SHARE of a VALUE in a FIELD: in hundredths of all that PASS, rounded down");
        EditMender x = Check.of(AB + "row 0 0;row 1 0;row 1 0;row ?0;row 2 0;row 1 0;row 1 0;row 1 0;");
        int[] want = {14, 71, 14};
        for (int value = 0; value < 3; value++) {
            Check.due("share " + value, want[value], x.share(0, value));
        }
        Check.due("all", 100, x.share(1, 0));
        Check.due("none", 0, x.share(1, 4));
        EditMender most = Check.of("field a named 2;" + "row0;".repeat(39) + "row1;");
        Check.due("39 of 40", 97, most.share(0, 0));
        Check.due("one of 40", 2, most.share(0, 1));
    }

    private static void shareWithout() {
        Check.says("SHARE: (0 without)");
        for (int value = 0; value < 3; value++) {
            Check.due("no ROWS", 0, Check.of(AB).share(0, value));
            Check.due("nothing PASSES", 0, Check.of(NOTHING).share(0, value));
            Check.due("MISSING ones alone", 0, Check.of(AB + "row 0?;row ??;").share(0, value));
        }
    }

    private static void shareRefused() {
        Check.says("share: IndexOutOfBoundsException, IllegalArgumentException: the VALUE is none");
        EditMender x = Check.of(AB + "row 0 0;");
        for (int value : new int[] {-1, 3, 4, 5, Integer.MIN_VALUE, Integer.MAX_VALUE}) {
            Check.dueOf("VALUE " + value, Check.ARGUMENT, () -> x.share(0, value));
            noSuchField("VALUE " + value, field -> x.share(field, value));
        }
        Check.due("of another FIELD", 0, x.share(1, 4));
        noSuchField("share", field -> x.share(field, 0));
    }

    // ---- what is written

    private static void write() {
        Check.says("WRITTEN: a ROW: its ANSWERS one behind another, a digit or ? each; write: how many bytes");
        EditMender x = Check.of("field a named5;field b named5;field c named5;field d named5;field e named5;row 0 4 ? 2 1;");
        Check.due("five", 5, x.write(0));
        int[] want = {'0', '4', '?', '2', '1'};
        for (int k = 0; k < 5; k++) {
            Check.due("octet " + k, want[k], x.octet(k));
        }
        Check.read(x, A + "row ?;");
        Check.due("one", 1, x.write(0));
        Check.due("octet 0", (int) '?', x.octet(0));
        Check.due("of the one before there is nothing", -1, x.octet(1));
    }

    private static void writeRefused() {
        Check.says("write: IndexOutOfBoundsException: no such ROW; it writes nothing");
        EditMender x = Check.of(AB + "row 0 4;row 1 1;row 2 2;");
        x.write(0);
        noSuchRow("write", row -> x.write(row));
        Check.due("bytes", 2, x.count(8));
        Check.due("the first", (int) '0', x.octet(0));
        Check.due("the last", (int) '4', x.octet(1));
        Check.dueOf("no FIELDS", Check.INDEX, () -> new EditMender().write(0));
    }

    private static void octet() {
        Check.says("octet: Byte k of what was WRITTEN latest");
        EditMender x = Check.of(AB + "row 0 4;row 1?;");
        x.write(1);
        x.write(0);
        x.tell(0, 0, 2);
        x.drop();
        x.drop();
        x.undo();
        Check.due("the first", (int) '0', x.octet(0));
        Check.due("the last", (int) '4', x.octet(1));
    }

    private static void octetNone() {
        Check.says("octet: NONE without");
        EditMender none = new EditMender();
        Check.due("no FIELDS", -1, none.octet(0));
        EditMender x = Check.of(AB + "row 0 4;");
        Check.due("nothing WRITTEN", -1, x.octet(0));
        x.write(0);
        for (int k : new int[] {-1, 2, 4, 5, Integer.MIN_VALUE, Integer.MAX_VALUE}) {
            Check.due("octet " + k, -1, x.octet(k));
            Check.due("nothing WRITTEN, octet " + k, -1, none.octet(k));
        }
    }

    // ---- counts

    private static void counts(EditMender x, int... want) {
        for (int what = 0; what < want.length; what++) {
            Check.due("count " + what, want[what], x.count(what));
        }
    }

    private static void counts() {
        Check.says("count: 0 FIELDS, 1 EDITS, 2 ROWS, 3 ROWS that PASS, 4 ANSWERS that are MISSING, 5 ACTS, 6 the FIELD"
            + " of GROUPS (NONE), 7 all FORMS, 8 bytes WRITTEN, 9 WEIGHTS of all FIELDS, 10 ROWS that can be MENDED");
        counts(new EditMender(), 0, 0, 0, 0, 0, 0, -1, 0, 0, 0, 0);
        counts(Check.of(A), 1, 0, 0, 0, 0, 0, -1, 3, 0, 1, 0);
        EditMender x = Check.of("field a named5weight9;field b named5weight9;field c named5weight9;field d named5weight9;"
            + "field e named5weight9;group e;" + "edit a in 0;".repeat(6) + "row?????;".repeat(20));
        for (int k = 0; k < 20; k++) {
            x.copy(0);
        }
        x.write(0);
        counts(x, 5, 6, 40, 0, 200, 16, 4, 3125, 5, 45, 40);
        counts(Check.of(AB + "group a;row 0 0;row 2?;"), 2, 0, 2, 1, 1, 0, 0, 15, 0, 2, 2);
    }

    private static void countPassing() {
        Check.says("count: 3 ROWS that PASS, 4 ANSWERS that are MISSING");
        EditMender x = Check.of(AB + "edit a in 0;row 0 0;row 1 0;row 1?;row 2 4;");
        counts(x, 2, 1, 4, 2, 1);
        x.tell(2, 1, 0);
        x.tell(0, 0, 1);
        counts(x, 2, 1, 4, 4, 0);
    }

    private static void countActs() {
        Check.says("count: 5 ACTS that can be undone");
        EditMender x = Check.of(A + "row 0;");
        for (int k = 1; k <= 17; k++) {
            x.tell(0, 0, -1);
            Check.due("ACTS", Math.min(16, k), x.count(5));
        }
        x.undo();
        Check.due("ACTS", 15, x.count(5));
    }

    private static void countMendable() {
        Check.says("count: 10 ROWS that can be MENDED (some set MENDS them)");
        Check.due("nothing PASSES", 0, Check.of(NOTHING).count(10));
        Check.due("by the only FORM that PASSES", 2, Check.of("field a named 2;edit a in 0;row 0;row 1;").count(10));
        Check.due("one that PASSES too", 3, Check.of(AB + "edit a in 0-1;row 0 0;row 2 0;row ??;").count(10));
        Check.due("no ROWS", 0, Check.of(AB).count(10));
    }

    private static void countNone() {
        Check.says("count: NONE for another what");
        EditMender x = Check.of(AB + "group a;row 0 0;");
        for (int what : new int[] {-1, -2, 11, 12, 256, Integer.MIN_VALUE, Integer.MAX_VALUE}) {
            Check.due("count " + what, -1, x.count(what));
            Check.due("no FIELDS, count " + what, -1, new EditMender().count(what));
        }
    }
}
