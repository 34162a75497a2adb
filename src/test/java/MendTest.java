/** Promises 32 to 37: donors, mending, undoing. */
public final class MendTest {
    private static final String INDEX = "throws.IndexOutOfBoundsException";
    private static final String ARGUMENT = "throws.IllegalArgumentException";
    private static final String NO_SUCH = "throws.NoSuchElementException";
    private static final String STATE = "throws.IllegalStateException";
    private static final String FORM = "field a named 2 weight 3;field b scaled 3;field c named 2;"
            + "edit a in 1 and b in 0-1;edit b in 2 and c in 0;";
    private static final String ROWS = "row 1 0 0;row 0 0 0;row 1 2 1;row 0 1 1;row 0 2 0;row ? 2 1;";
    private static final String SIX = FORM + "group c;" + ROWS;
    private static final String BEFORE = "100 000 121 011 020 ?21";
    /** Row 1 would take another value, if row 0 were mended ahead of it. */
    private static final String CHAIN = "field a named 3;field b scaled 5;edit a in 0;"
            + "row 0 3;row 0 2;row 1 4;row 2 1;";

    private MendTest() {
    }

    public static void main(String[] args) {
        donors();
        donorsWithoutGroups();
        would();
        together();
        mend();
        mendAll();
        trial();
        undo();
        acts();
        Check.end();
    }

    private static void donors(EditMender x, int row, int[] order, int[] fars) {
        for (int k = 0; k < order.length; k++) {
            Check.due("donor " + row + " " + k, order[k], x.donor(row, k, false));
            Check.due("far " + row + " " + k, fars[k], x.donor(row, k, true));
        }
        Check.due("behind them", -1, x.donor(row, order.length, false));
        Check.due("behind them", -1, x.donor(row, order.length, true));
        Check.due("ahead of them", -1, x.donor(row, -1, false));
        Check.due("ahead of them", -1, x.donor(row, -1, true));
    }

    private static void donors() {
        EditMender x = Check.of(SIX);
        // The field of groups is in the least set of row 0: rows of all groups may give.
        donors(x, 0, new int[] {2}, new int[] {0});
        donors(x, 1, new int[] {}, new int[] {});
        donors(x, 2, new int[] {3}, new int[] {4});
        donors(x, 3, new int[] {2}, new int[] {4});
        donors(x, 4, new int[] {1}, new int[] {0});
        donors(x, 5, new int[] {2, 3}, new int[] {0, 1});
        Check.dueOf("no such row", INDEX, () -> x.donor(6, 0, false));
        Check.dueOf("no such row", INDEX, () -> x.donor(-1, 0, true));
    }

    private static void donorsWithoutGroups() {
        EditMender x = Check.of(FORM + ROWS);
        donors(x, 1, new int[] {3, 2}, new int[] {2, 6});
        donors(x, 4, new int[] {1, 3}, new int[] {0, 1});
        EditMender y = Check.of("field a scaled 5 weight 2;field b named 2;edit b in 1;row 2 ?;row 4 0;row 0 0;row 3 0;");
        donors(y, 0, new int[] {3, 1, 2}, new int[] {2, 4, 4});
        EditMender none = Check.of("field a named 2;edit a in 0-1;row 0;row 1;");
        donors(none, 0, new int[] {}, new int[] {});
    }

    private static void would() {
        EditMender x = Check.of(SIX);
        int[][] want = {{121, 121, 121}, {0, 0, 0}, {121, 121, 121}, {11, 11, 11}, {0, 0, 0}, {121, 121, 21}};
        for (int row = 0; row < 6; row++) {
            for (int way = 0; way < 3; way++) {
                Check.due("would " + row + " " + way, want[row][way], x.would(row, way));
            }
        }
        Check.dueOf("no way", ARGUMENT, () -> x.would(0, 3));
        Check.dueOf("no way", ARGUMENT, () -> x.would(1, -1));
        Check.dueOf("no such row comes first", INDEX, () -> x.would(6, 3));
        Check.due("nothing stays", BEFORE, Check.allWritten(x));
        EditMender alone = Check.of("field a named 3;edit a in 0;row 0;");
        Check.due("no donor", -1, alone.would(0, 0));
        Check.due("no donor", -1, alone.would(0, 1));
        Check.due("no donor asked", 1, alone.would(0, 2));
        EditMender nothing = Check.of("field a named 2;edit a in 0-1;row 0;");
        Check.due("no set", -1, nothing.would(0, 2));
    }

    private static void together() {
        EditMender x = Check.of("field a scaled 5;field b named 4;edit b in 0;"
                + "row 0 ?;row 1 1;row 2 2;row 3 2;row 4 3;row 3 1;");
        Check.due("of several as the first donor", 1, x.would(0, 1));
        x.drop();
        Check.due("as most donors", 2, x.would(0, 1));
        Check.due("as the first donor", 1, x.would(0, 0));
        Check.due("the least values", 1, x.would(0, 2));
        EditMender y = Check.of("field k scaled 5;field a named 3;field b named 3;edit k in 0 and a in 0;"
                + "row 0 ??;row 1 1 1;row 2 1 2;row 3 2 2;row 4 1 2;");
        Check.due("both fields together", 12, y.would(0, 1));
        Check.due("the first donor's", 11, y.would(0, 0));
        Check.due("the least values, field by field", 10, y.would(0, 2));
        EditMender z = Check.of("field a named 2;field b named 2;edit a in 0 and b in 0;edit a in 0 and b in 1;row ??;");
        Check.due("the first field's least value may not do", 10, z.would(0, 2));
    }

    private static void mend() {
        EditMender x = Check.of(SIX);
        Check.dueOf("it passes", STATE, () -> x.mend(1, 0));
        Check.dueOf("no way", ARGUMENT, () -> x.mend(1, 3));
        Check.dueOf("no way", ARGUMENT, () -> x.mend(0, -1));
        Check.dueOf("no such row comes first", INDEX, () -> x.mend(6, 3));
        Check.due("what is refused is no act", 0, x.count(5));
        Check.due("two fields", 2, x.mend(0, 0));
        Check.due("a missing one", 1, x.mend(5, 2));
        Check.due("rows", "121 000 121 011 020 021", Check.allWritten(x));
        Check.dueOf("it passes now", STATE, () -> x.mend(0, 0));
        Check.due("acts", 2, x.count(5));
        EditMender alone = Check.of("field a named 3;edit a in 0;row 0;");
        Check.dueOf("no donor", STATE, () -> alone.mend(0, 0));
        Check.dueOf("no donor", STATE, () -> alone.mend(0, 1));
        Check.due("no donor asked", 1, alone.mend(0, 2));
    }

    private static void mendAll() {
        EditMender x = Check.of(CHAIN);
        Check.due("rows", 2, x.mendAll(0));
        Check.due("each by the rows as they were", "13 22 14 21", Check.allWritten(x));
        Check.due("nothing to mend", 0, x.mendAll(1));
        Check.due("acts", 2, x.count(5));
        Check.dueOf("no way", ARGUMENT, () -> x.mendAll(3));
        Check.dueOf("no way", ARGUMENT, () -> x.mendAll(-1));
        Check.due("no act", 2, x.count(5));
        EditMender some = Check.of("field g named 2;field a named 3;group g;edit a in 0;row 0 0;row 1 0;row 0 2;");
        Check.due("those with donors alone", 1, some.mendAll(0));
        Check.due("the other one stays", "02 10 02", Check.allWritten(some));
        EditMender nothing = Check.of("field a named 2;edit a in 0-1;row 0;");
        Check.due("none", 0, nothing.mendAll(2));
        Check.due("an act all the same", 1, nothing.count(5));
    }

    private static void trial() {
        EditMender x = Check.of(SIX);
        int[][] want = {{6, 4, 6}, {6, 4, 6}, {6, 4, 6}};
        for (int way = 0; way < 3; way++) {
            for (int what = 0; what < 3; what++) {
                Check.due("trial " + way + " " + what, want[way][what], x.trial(way, what));
            }
        }
        Check.due("nothing stays", BEFORE, Check.allWritten(x));
        Check.due("no act", 0, x.count(5));
        Check.dueOf("no way", ARGUMENT, () -> x.trial(3, 0));
        Check.dueOf("no way comes first", ARGUMENT, () -> x.trial(-1, 3));
        Check.dueOf("another what", NO_SUCH, () -> x.trial(0, 3));
        Check.dueOf("another what", NO_SUCH, () -> x.trial(0, -1));
        EditMender some = Check.of("field g named 2;field a named 3 weight 4;group g;edit a in 0;"
                + "row 0 0;row 1 0;row 0 2;");
        Check.due("one would not pass", 2, some.trial(1, 0));
        Check.due("one answer", 1, some.trial(1, 1));
        Check.due("its weight", 4, some.trial(1, 2));
        Check.due("all by way 2", 3, some.trial(2, 0));
        Check.due("two answers", 2, some.trial(2, 1));
        Check.due("their weight", 8, some.trial(2, 2));
    }

    private static void undo() {
        EditMender x = Check.of(SIX);
        Check.due("none", -1, x.undo());
        x.tell(0, 1, 2);
        x.copy(5);
        x.drop();
        x.drop();
        x.mend(0, 2);
        x.mendAll(2);
        String[] want = {"021 000 121 011 020", "120 000 121 011 020", "120 000 121 011 020 ?21",
            "120 000 121 011 020 ?21 ?21", "120 000 121 011 020 ?21", BEFORE};
        for (int k = 0; k < want.length; k++) {
            Check.due("undo " + k, want.length - 1 - k, x.undo());
            String rows = Check.allWritten(x);
            Check.due("rows " + k, k == 0 ? afterMend() : want[k], rows);
        }
        Check.due("none left", -1, x.undo());
    }

    /** Row 0 is 1 2 0 then: its least set is the last field alone. */
    private static String afterMend() {
        return "121 000 121 011 020";
    }

    private static void acts() {
        EditMender x = Check.of("field a scaled 5;row 0;");
        for (int k = 1; k <= 20; k++) {
            x.tell(0, 0, k % 5);
            Check.due("acts", Math.min(k, 16), x.count(5));
        }
        for (int left = 15; left >= 0; left--) {
            Check.due("undo", left, x.undo());
            Check.due("the answer", (left + 4) % 5, x.answer(0, 0));
        }
        Check.due("the first four are kept no more", -1, x.undo());
        Check.due("the answer stays", 4, x.answer(0, 0));
        x.tell(0, 0, 4);
        Check.due("nothing changed, an act all the same", 1, x.count(5));
        Check.due("undone", 0, x.undo());
    }
}
