/** Promises 16 to 31: rows, what they fail, and the sets of fields that mend them. */
public final class RowTest {
    private static final String INDEX = "throws.IndexOutOfBoundsException";
    private static final String ARGUMENT = "throws.IllegalArgumentException";
    private static final String NO_SUCH = "throws.NoSuchElementException";
    private static final String STATE = "throws.IllegalStateException";
    private static final String SIX = "field a named 2 weight 3;field b scaled 3;field c named 2;group c;"
            + "edit a in 1 and b in 0-1;edit b in 2 and c in 0;"
            + "row 1 0 0;row 0 0 0;row 1 2 1;row 0 1 1;row 0 2 0;row ? 2 1;";
    /** The first field alone weighs as much as both others. */
    private static final String HEAVY = "field a named 2 weight 2;field b named 2;field c named 2;"
            + "edit a in 1 and b in 1;edit a in 1 and c in 1;row 1 1 1;";
    private static final String NOTHING = "field a named 2;field b named 2;edit a in 0-1;edit b in 1;"
            + "row 0 0;row 0 1;row ??;";

    private RowTest() {
    }

    public static void main(String[] args) {
        answers();
        copies();
        fails();
        within();
        may();
        likely();
        blame();
        mends();
        least();
        leastOfNothing();
        values();
        forced();
        urgent();
        Check.end();
    }

    private static void answers() {
        EditMender x = Check.of(SIX);
        Check.due("answer", 1, x.answer(0, 0));
        Check.due("missing", -1, x.answer(5, 0));
        Check.dueOf("no such row", INDEX, () -> x.answer(6, 0));
        Check.dueOf("no such row", INDEX, () -> x.answer(-1, 0));
        Check.dueOf("no such field", INDEX, () -> x.answer(0, 3));
        Check.dueOf("no such field", INDEX, () -> x.answer(0, -1));
        Check.due("what it was", 0, x.tell(0, 1, 2));
        Check.due("what it is", 2, x.answer(0, 1));
        Check.due("missing told", 2, x.tell(0, 1, -1));
        Check.due("what it was: missing", -1, x.tell(0, 1, -1));
        Check.due("four acts at most so far", 3, x.count(5));
        Check.dueOf("no value", ARGUMENT, () -> x.tell(0, 1, 3));
        Check.dueOf("no value", ARGUMENT, () -> x.tell(0, 1, -2));
        Check.dueOf("no such row comes first", INDEX, () -> x.tell(6, 1, 3));
        Check.dueOf("no such field comes first", INDEX, () -> x.tell(0, 3, 3));
        Check.due("what is refused is no act", 3, x.count(5));
        Check.due("other rows stay", "1?0 000 121 011 020 ?21", Check.allWritten(x));
    }

    private static void copies() {
        EditMender x = Check.of("field a named 2;row 1;row ?;");
        Check.due("copy", 2, x.copy(1));
        Check.due("the copy", -1, x.answer(2, 0));
        x.tell(2, 0, 0);
        Check.due("it is a row of its own", "1 ? 0", Check.allWritten(x));
        Check.dueOf("no such row", INDEX, () -> x.copy(3));
        for (int row = 3; row < 40; row++) {
            Check.due("copy " + row, row, x.copy(0));
        }
        Check.dueOf("there are 40", STATE, () -> x.copy(0));
        Check.dueOf("no such row comes first", INDEX, () -> x.copy(40));
        for (int left = 39; left >= 0; left--) {
            Check.due("drop", left, x.drop());
        }
        Check.dueOf("there is none", STATE, x::drop);
        Check.dueOf("no row to copy", INDEX, () -> x.copy(0));
        Check.due("acts kept", 16, x.count(5));
    }

    private static void fails() {
        EditMender x = Check.of(SIX);
        int[] want = {1, 0, 0, 0, 2, 0};
        for (int row = 0; row < 6; row++) {
            Check.due("fails " + row, want[row], x.fails(row));
        }
        Check.dueOf("no such row", INDEX, () -> x.fails(6));
        Check.dueOf("no such row", INDEX, () -> x.fails(-1));
        // A field all of whose values are told is none of the edit's own.
        EditMender y = Check.of("field a named 2;field b named 2;edit a in 0-1 and b in 1;row ?1;row 1?;row??;");
        Check.due("missing in another field", 1, y.fails(0));
        Check.due("missing in its field", 0, y.fails(1));
        Check.due("missing in both", 0, y.fails(2));
        Check.due("none passes", 0, y.count(3));
    }

    private static void within() {
        EditMender x = Check.of(SIX);
        int[][] want = {{0, 1, -1}, {-1, -1, -1}, {-1, -1, -1}, {-1, -1, -1}, {2, -1, -1}};
        for (int row = 0; row < 5; row++) {
            for (int k = 0; k < 3; k++) {
                Check.due("within " + row + " " + k, want[row][k], x.within(row, k));
            }
        }
        Check.due("below 0", -1, x.within(0, -1));
        Check.dueOf("missing", STATE, () -> x.within(5, 0));
        Check.dueOf("no such row", INDEX, () -> x.within(6, 0));
    }

    private static void may() {
        EditMender x = Check.of(SIX);
        Check.due("another value", 1, x.may(0, 0));
        Check.due("none", 0, x.may(0, 1));
        Check.due("its own value too", 3, x.may(1, 2));
        Check.due("missing there", 3, x.may(5, 0));
        Check.dueOf("missing elsewhere", STATE, () -> x.may(5, 1));
        Check.dueOf("no such row", INDEX, () -> x.may(6, 0));
        Check.dueOf("no such field", INDEX, () -> x.may(5, 3));
        Check.dueOf("no such field", INDEX, () -> x.may(0, -1));
    }

    private static void likely() {
        EditMender x = Check.of("field a scaled 3;field b named 2;edit a in 0 and b in 1;"
                + "row 1 0;row 2 0;row 2 0;row 0 1;row 0?;");
        Check.due("the greater share", 2, x.likely(3, 0));
        Check.due("the only one", 0, x.likely(3, 1));
        Check.due("missing there", 0, x.likely(4, 1));
        Check.dueOf("missing elsewhere", STATE, () -> x.likely(4, 0));
        x.drop();
        x.tell(2, 0, 1);
        x.tell(0, 0, 2);
        x.copy(2);
        Check.due("of several the least", 1, x.likely(3, 0));
        Check.dueOf("no such row", INDEX, () -> x.likely(5, 0));
        Check.dueOf("no such field", INDEX, () -> x.likely(0, 2));
        EditMender none = Check.of("field a named 3;edit a in 0;row 0;");
        Check.due("no row passes: all shares are 0", 1, none.likely(0, 0));
        EditMender nothing = Check.of(NOTHING);
        Check.due("by none", -1, nothing.likely(0, 0));
    }

    private static void blame() {
        EditMender x = Check.of(SIX);
        Check.due("the most boxes", 0, x.blame(0));
        Check.due("the first", 1, x.blame(4));
        Check.due("a row that passes", -1, x.blame(1));
        Check.dueOf("missing", STATE, () -> x.blame(5));
        Check.dueOf("no such row", INDEX, () -> x.blame(6));
        EditMender light = Check.of("field a named 2 weight 2;field b named 2;edit a in 1 and b in 1;row 1 1;");
        Check.due("the least weight", 1, light.blame(0));
        EditMender most = Check.of(HEAVY);
        Check.due("most boxes ahead of weight", 0, most.blame(0));
        EditMender nothing = Check.of(NOTHING);
        Check.due("none enters", -1, nothing.blame(0));
    }

    private static void mends() {
        EditMender x = Check.of(HEAVY + "row 0 ? 0;row 0 0 0;");
        boolean[] want = {false, true, false, true, false, true, true, true};
        int[] ways = {0, 1, 0, 2, 0, 2, 1, 5};
        for (int set = 0; set < 8; set++) {
            Check.due("mends " + set, want[set], x.mends(0, set));
            Check.due("ways " + set, ways[set], x.ways(0, set));
            Check.due("missing must be in it " + set, (set & 2) != 0, x.mends(1, set));
            Check.due("one that passes " + set, true, x.mends(2, set));
        }
        Check.due("ways of missing ones", 2, x.ways(1, 2));
        Check.due("no ways", 0, x.ways(1, 5));
        for (int wrong : new int[] {-1, 8, Integer.MIN_VALUE, Integer.MAX_VALUE}) {
            Check.dueOf("no set", ARGUMENT, () -> x.mends(0, wrong));
            Check.dueOf("no set", ARGUMENT, () -> x.ways(0, wrong));
            Check.dueOf("no such row comes first", INDEX, () -> x.mends(3, wrong));
            Check.dueOf("no such row comes first", INDEX, () -> x.ways(-1, wrong));
        }
    }

    private static void least() {
        EditMender x = Check.of(HEAVY + "row ? 1 1;row 0 1 1;");
        Check.due("the fewest fields", 1, x.least(0, 0));
        Check.due("weight", 2, x.least(0, 1));
        Check.due("sets of that weight", 2, x.least(0, 2));
        Check.due("the least as bits", 1, x.leastOf(0, 0));
        Check.due("then", 6, x.leastOf(0, 1));
        Check.due("behind them", -1, x.leastOf(0, 2));
        Check.due("ahead of them", -1, x.leastOf(0, -1));
        Check.due("with missing ones", 1, x.least(1, 0));
        Check.due("one set alone", 1, x.least(1, 2));
        Check.due("one that passes: no field", 0, x.least(2, 0));
        Check.due("no weight", 0, x.least(2, 1));
        Check.due("one set", 1, x.least(2, 2));
        Check.due("the empty one", 0, x.leastOf(2, 0));
        Check.due("no other one", -1, x.leastOf(2, 1));
        Check.dueOf("another what", NO_SUCH, () -> x.least(0, 3));
        Check.dueOf("another what", NO_SUCH, () -> x.least(0, -1));
        Check.dueOf("no such row comes first", INDEX, () -> x.least(3, 3));
        Check.dueOf("no such row", INDEX, () -> x.leastOf(3, 0));
        EditMender y = Check.of("field a named 2;field b named 2;edit a in 1 and b in 1;row 1 1;");
        Check.due("the least as bits", 1, y.least(0, 0));
        EditMender z = Check.of("field a named 2 weight 5;field b named 2 weight 2;field c named 2 weight 2;"
                + "edit a in 1 and b in 1;edit a in 1 and c in 1;row 1 1 1;");
        Check.due("less weight ahead of fewer fields", 6, z.least(0, 0));
    }

    private static void leastOfNothing() {
        EditMender x = Check.of(NOTHING);
        for (int row = 0; row < 3; row++) {
            Check.due("none", -1, x.least(row, 0));
            Check.due("no weight", -1, x.least(row, 1));
            Check.due("no sets", 0, x.least(row, 2));
            Check.due("no set", -1, x.leastOf(row, 0));
            Check.due("nothing forced", 0, x.forced(row));
            Check.due("no values", 0, x.values(row, 3, 0));
        }
    }

    private static void values() {
        EditMender x = Check.of(HEAVY + "row ? 0 1;");
        Check.due("all fields", 3, x.values(0, 7, 1));
        Check.due("outside of the set: as it is", 2, x.values(0, 6, 0));
        Check.due("inside", 1, x.values(0, 6, 1));
        Check.due("it does not mend", 0, x.values(0, 2, 1));
        Check.due("outside of one that does not mend", 0, x.values(0, 2, 0));
        Check.due("missing", 1, x.values(1, 1, 0));
        Check.due("missing outside of the set", 0, x.values(1, 2, 0));
        Check.dueOf("no set", ARGUMENT, () -> x.values(0, 8, 0));
        Check.dueOf("no set", ARGUMENT, () -> x.values(0, -1, 0));
        Check.dueOf("no such field comes first", INDEX, () -> x.values(0, 8, 3));
        Check.dueOf("no such row comes first", INDEX, () -> x.values(2, 8, 0));
    }

    private static void forced() {
        EditMender x = Check.of(SIX);
        int[] want = {6, 0, 0, 0, 0, 0};
        for (int row = 0; row < 6; row++) {
            Check.due("forced " + row, want[row], x.forced(row));
        }
        EditMender y = Check.of("field a named 3;field b named 2;edit a in 2 and b in 1;edit b in 0;row 2?;row??;");
        Check.due("both in its set", 3, y.least(0, 0));
        Check.due("one of them forced", 2, y.forced(0));
        Check.due("one of them forced", 2, y.forced(1));
        Check.due("the first field forced", 1, Check.of("field a named 2;edit a in 0;row 0;").forced(0));
        Check.dueOf("no such row", INDEX, () -> x.forced(6));
        Check.dueOf("no such row", INDEX, () -> x.forced(-1));
    }

    private static void order(EditMender x, int... want) {
        for (int k = 0; k < want.length; k++) {
            Check.due("urgent " + k, want[k], x.urgent(k));
        }
        Check.due("behind", -1, x.urgent(want.length));
        Check.due("ahead", -1, x.urgent(-1));
        Check.due("far behind", -1, x.urgent(Integer.MAX_VALUE));
    }

    private static void urgent() {
        order(Check.of("field a named 2 weight 5;field b named 2;edit a in 1;edit a in 1 and b in 1;edit b in 1;"
                + "row 1 0;row 1 1;row 0 1;row 0 ?;row 0 0;row ? 0;row 0 1;"), 1, 0, 2, 6, 5, 3);
        order(Check.of(SIX), 0, 4, 5);
        order(Check.of(NOTHING), 1, 0, 2);
        order(Check.of("field a named 2;row 0;"));
    }
}
