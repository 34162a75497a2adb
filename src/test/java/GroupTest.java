/** Promises 38 to 50: groups of rows, what is written, what is counted. */
public final class GroupTest {
    private static final String INDEX = "throws.IndexOutOfBoundsException";
    private static final String ARGUMENT = "throws.IllegalArgumentException";
    private static final String NO_SUCH = "throws.NoSuchElementException";
    private static final String STATE = "throws.IllegalStateException";
    private static final String FORM = "field a named 2 weight 3;field b scaled 3;field c named 2;"
            + "edit a in 1 and b in 0-1;edit b in 2 and c in 0;";
    private static final String ROWS = "row 1 0 0;row 0 0 0;row 1 2 1;row 0 1 1;row 0 2 0;row ? 2 1;";
    private static final String SIX = FORM + "group c;" + ROWS;

    private GroupTest() {
    }

    public static void main(String[] args) {
        patterns();
        alike();
        near();
        bunches();
        changes();
        groups();
        usual();
        share();
        write();
        count();
        Check.end();
    }

    private static void patterns() {
        EditMender x = Check.of(SIX + "row ? 0 1;row ? 2 0;");
        int[][] want = {{1, 0, 1, 0}, {0, 0, 3, 1}, {2, 0, 1, 4}, {0, 1, 2, 5}, {2, 1, 1, 7}};
        Check.due("patterns", 5, x.patterns());
        for (int k = 0; k < 5; k++) {
            for (int what = 0; what < 4; what++) {
                Check.due("pattern " + k + " " + what, want[k][what], x.pattern(k, what));
            }
        }
        Check.dueOf("none such", NO_SUCH, () -> x.pattern(5, 0));
        Check.dueOf("none such", NO_SUCH, () -> x.pattern(-1, 0));
        Check.dueOf("another what", NO_SUCH, () -> x.pattern(0, 4));
        Check.dueOf("another what", NO_SUCH, () -> x.pattern(0, -1));
    }

    private static void alike() {
        EditMender x = Check.of("field a named 2;row 0;row ?;row 0;row 1;row ?;");
        int[] alike = {2, 2, 2, 1, 2};
        int[] first = {0, 1, 0, 3, 1};
        for (int row = 0; row < 5; row++) {
            Check.due("alike " + row, alike[row], x.alike(row, false));
            Check.due("first " + row, first[row], x.alike(row, true));
        }
        Check.due("unlike", 3, x.unlike());
        Check.dueOf("no such row", INDEX, () -> x.alike(5, true));
        Check.dueOf("no such row", INDEX, () -> x.alike(-1, false));
    }

    private static final String APART = "field a named 4 weight 2;field b scaled 4 weight 3;"
            + "row 0 0;row 1 3;row ??;row 0?;";

    private static void near() {
        EditMender x = Check.of(APART);
        int[][] want = {{0, 11, 14, 12}, {11, 0, 14, 14}, {14, 14, 0, 2}, {12, 14, 2, 0}};
        for (int row = 0; row < 4; row++) {
            for (int other = 0; other < 4; other++) {
                Check.due("near " + row + " " + other, want[row][other], x.near(row, other));
            }
        }
        Check.dueOf("no such row", INDEX, () -> x.near(4, 0));
        Check.dueOf("no such row", INDEX, () -> x.near(0, 4));
        Check.dueOf("no such row", INDEX, () -> x.near(-1, 0));
    }

    private static void bunches(EditMender x, int n, int count, int... bunches) {
        Check.due("bunches by " + n, count, x.bunch(-1, n));
        for (int row = 0; row < bunches.length; row++) {
            Check.due("bunch by " + n + " of " + row, bunches[row], x.bunch(row, n));
        }
    }

    private static void bunches() {
        EditMender x = Check.of(APART);
        bunches(x, 1, 4, 0, 1, 2, 3);
        bunches(x, 2, 3, 0, 1, 2, 2);
        bunches(x, 11, 2, 0, 0, 1, 1);
        bunches(x, 12, 1, 0, 0, 0, 0);
        bunches(x, Integer.MAX_VALUE, 1, 0, 0, 0, 0);
        Check.dueOf("no such row", INDEX, () -> x.bunch(4, 0));
        Check.dueOf("no such row", INDEX, () -> x.bunch(-2, 0));
        EditMender y = Check.of("field a scaled 5;row 0;row 4;row 0;row 2;");
        bunches(y, 0, 3, 0, 1, 0, 2);
        bunches(y, -1, 4, 0, 1, 2, 3);
        bunches(y, Integer.MIN_VALUE, 4, 0, 1, 2, 3);
        bunches(y, 2, 1, 0, 0, 0, 0);
        bunches(Check.of("field a scaled 5;row 1;row 4;row 0;row 3;"), 1, 2, 0, 1, 0, 1);
        EditMender none = Check.of("field a named 2;");
        bunches(none, 0, 0);
        Check.dueOf("no rows", INDEX, () -> none.bunch(0, 0));
    }

    private static void changes() {
        EditMender x = Check.of(SIX);
        int[] want = {1, 2, 1};
        for (int field = 0; field < 3; field++) {
            Check.due("changes " + field, want[field], x.changes(field));
        }
        Check.dueOf("no such field", INDEX, () -> x.changes(3));
        Check.dueOf("no such field", INDEX, () -> x.changes(-1));
        Check.due("no set", 0, Check.of("field a named 2;edit a in 0-1;row 0;").changes(0));
    }

    private static void groups() {
        EditMender x = Check.of(SIX + "row 0 0 ?;");
        int[][] want = {{3, 1}, {3, 2}};
        for (int value = 0; value < 2; value++) {
            Check.due("rows of " + value, want[value][0], x.group(value, 0));
            Check.due("that pass", want[value][1], x.group(value, 1));
        }
        Check.dueOf("no value", ARGUMENT, () -> x.group(2, 0));
        Check.dueOf("no value comes first", ARGUMENT, () -> x.group(-1, 2));
        Check.dueOf("another what", NO_SUCH, () -> x.group(0, 2));
        Check.dueOf("another what", NO_SUCH, () -> x.group(0, -1));
        EditMender none = Check.of(FORM + ROWS);
        Check.dueOf("no groups comes first", STATE, () -> none.group(9, 9));
    }

    private static void usual() {
        EditMender x = Check.of(SIX);
        int[][] want = {{0, 0, 1}, {0, 0, 0}, {0, 1, 1}};
        for (int group = -1; group < 2; group++) {
            for (int field = 0; field < 3; field++) {
                Check.due("usual " + group + " " + field, want[group + 1][field], x.usual(group, field));
            }
        }
        x.tell(1, 0, -1);
        Check.due("none of the group passes", -1, x.usual(0, 0));
        Check.dueOf("no group", ARGUMENT, () -> x.usual(2, 0));
        Check.dueOf("no group", ARGUMENT, () -> x.usual(-2, 0));
        Check.dueOf("no such field comes first", INDEX, () -> x.usual(2, 3));
        EditMender none = Check.of(FORM + ROWS);
        Check.due("all rows without groups", 1, none.usual(-1, 2));
        Check.dueOf("no groups", STATE, () -> none.usual(0, 0));
        Check.dueOf("no groups", STATE, () -> none.usual(9, 0));
        Check.dueOf("no groups", STATE, () -> none.usual(-2, 0));
        Check.dueOf("no such field comes first", INDEX, () -> none.usual(0, -1));
    }

    private static void share() {
        EditMender x = Check.of("field a scaled 3;field b named 2;edit a in 0 and b in 1;"
                + "row 1 0;row 2 0;row 2 0;row 0 1;row 0?;");
        int[] want = {0, 33, 66};
        for (int value = 0; value < 3; value++) {
            Check.due("share " + value, want[value], x.share(0, value));
        }
        Check.due("all", 100, x.share(1, 0));
        Check.due("none", 0, x.share(1, 1));
        Check.dueOf("no value", ARGUMENT, () -> x.share(1, 2));
        Check.dueOf("no value", ARGUMENT, () -> x.share(0, -1));
        Check.dueOf("no such field comes first", INDEX, () -> x.share(2, 9));
        Check.due("no row passes", 0, Check.of("field a named 2;row ?;").share(0, 0));
    }

    private static void write() {
        EditMender x = Check.of(SIX);
        Check.due("nothing written", -1, x.octet(0));
        Check.due("bytes", 3, x.write(5));
        Check.due("missing", (int) '?', x.octet(0));
        Check.due("a digit", (int) '2', x.octet(1));
        Check.due("a digit", (int) '1', x.octet(2));
        Check.due("behind", -1, x.octet(3));
        Check.due("ahead", -1, x.octet(-1));
        x.tell(5, 1, 0);
        Check.dueOf("no such row", INDEX, () -> x.write(6));
        Check.dueOf("no such row", INDEX, () -> x.write(-1));
        Check.due("what was written stays", (int) '2', x.octet(1));
        Check.due("bytes written", 3, x.count(8));
    }

    private static void count() {
        EditMender x = Check.of(SIX);
        x.tell(0, 1, -1);
        x.write(0);
        int[] want = {3, 2, 6, 3, 2, 1, 2, 12, 3, 5, 6};
        for (int what = 0; what < want.length; what++) {
            Check.due("count " + what, want[what], x.count(what));
        }
        Check.due("another what", -1, x.count(11));
        Check.due("another what", -1, x.count(-1));
        EditMender nothing = Check.of("field a named 2;edit a in 0-1;row 0;");
        Check.due("no groups", -1, nothing.count(6));
        Check.due("none can be mended", 0, nothing.count(10));
        Check.due("by one form all can", 2, Check.of("field a named 2;edit a in 0;row 0;row 1;").count(10));
    }
}
