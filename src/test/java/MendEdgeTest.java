/** The boundaries that 'Terms' 3 and promises 32 to 37 name for donors, mending and acts: a test for each sentence. */
public final class MendEdgeTest {
    private static final String A = "field a named 3;";
    private static final String AB = "field a named 3;field b scaled 5;";
    private static final String NOTHING = AB + "edit a in 0-2;row 0 0;row ??;row 2 4;";
    private static final int[] NO_ROWS = {-1, -2, 3, 40, Integer.MIN_VALUE, Integer.MAX_VALUE};
    private static final int[] NO_WAYS = {-1, 3, 4, Integer.MIN_VALUE, Integer.MAX_VALUE};

    private MendEdgeTest() {
    }

    public static void main(String[] args) {
        otherRows();
        thatPass();
        sameGroup();
        groupInLeast();
        makeItPass();
        farOutsideLeast();
        farByNumbers();
        firstDonor();
        mostTogether();
        mostTogetherFirst();
        leastValues();
        withoutDonors();
        passingStays();
        donor();
        donorBehind();
        would();
        wouldDigits();
        wouldNone();
        wouldRefused();
        mend();
        mendNoWay();
        mendNot();
        mendAll();
        mendAllAsAhead();
        mendAllNoWay();
        trial();
        trialStays();
        trialRefused();
        actKinds();
        actsWithoutChange();
        refusedIsNone();
        latestSixteen();
        undone();
        undo();
        Check.end();
    }

    private static void donors(EditMender x, int row, int... want) {
        for (int k = 0; k < want.length; k++) {
            Check.due("donor " + row + " " + k, want[k], x.donor(row, k, false));
        }
        Check.due("donor " + row + " behind", -1, x.donor(row, want.length, false));
        Check.due("far " + row + " behind", -1, x.donor(row, want.length, true));
    }

    private static void noSuchRow(String what, java.util.function.IntFunction<Object> call) {
        for (int row : NO_ROWS) {
            Check.dueOf(what + " of ROW " + row, Check.INDEX, () -> call.apply(row));
        }
    }

    // ---- donors

    private static void otherRows() {
        Check.says("DONORS of a ROW: other ROWS");
        donors(Check.of(AB + "row 0 0;"), 0);
        EditMender x = Check.of(AB + "row 0 0;row 0 0;row 1 4;");
        donors(x, 0, 1, 2);
        donors(x, 1, 0, 2);
        donors(x, 2, 0, 1);
    }

    private static void thatPass() {
        Check.says("DONORS: that PASS");
        EditMender x = Check.of(AB + "edit b in 0;row 0 0;row 1 0;row ?1;row 2 1;row 2?;");
        donors(x, 0, 3);
        donors(x, 2, 3);
        donors(x, 3);
        donors(Check.of(AB + "edit b in 0;row 0 0;row 1 0;"), 0);
    }

    private static final String GROUPS = AB + "field c named 2;group a;edit b in 0;";

    private static void sameGroup() {
        Check.says("DONORS: with a GROUP also of the same VALUE in the FIELD of GROUPS as the ROW");
        EditMender x = Check.of(GROUPS + "row 1 0 0;row 0 1 0;row 1 2 1;row 2 1 0;row 1 2 0;");
        donors(x, 0, 4, 2);
        donors(x, 4, 2);
        donors(x, 1);
        donors(Check.of(GROUPS.replace("group a;", "") + "row 1 0 0;row 0 1 0;row 1 2 1;row 2 1 0;row 1 2 0;"), 0,
            4, 1, 2, 3);
    }

    private static void groupInLeast() {
        Check.says("DONORS: (all, if that FIELD is in LEAST of the ROW)");
        EditMender x = Check.of(AB + "group a;edit a in 0;row 0 1;row 1 3;row 2 1;row ?3;row 0?;");
        donors(x, 0, 2, 1);
        donors(x, 3, 1, 2);
        donors(x, 4, 1, 2);
        donors(x, 1);
    }

    private static void makeItPass() {
        Check.says("DONORS: whose VALUES in the FIELDS of LEAST, put into the ROW, make it PASS");
        EditMender x = Check.of(AB + "edit a in 0 and b in 0-1;edit a in 1 and b in 4;row 0 0;row 1 1;row 2 4;row 1 0;row 0 3;");
        Check.due("LEAST", 1, x.least(0, 0));
        donors(x, 0, 3, 1, 2);
        x.tell(0, 1, 4);
        Check.due("it PASSES", 0, x.fails(0));
        x.tell(0, 0, 1);
        Check.due("LEAST", 1, x.least(0, 0));
        donors(x, 0, 2, 4);
    }

    private static void farOutsideLeast() {
        Check.says("FAR: the sum, of all FIELDS that are not in LEAST, of WEIGHT times how unlike both are:"
            + " named: 1, if they are unlike; scaled: how far apart");
        EditMender x = Check.of("field a named 5 weight 3;field b scaled 5 weight 2;field c named 2;edit c in 0;"
            + "row 0 4 0;row 4 0 1;row 0 4 1;row 1 4 1;row 0 3 1;");
        donors(x, 0, 2, 4, 3, 1);
        int[] fars = {0, 2, 3, 11};
        for (int k = 0; k < 4; k++) {
            Check.due("far " + k, fars[k], x.donor(0, k, true));
        }
        EditMender all = Check.of(AB + "row ??;row 2 4;");
        Check.due("all FIELDS are in LEAST", 0, all.donor(0, 0, true));
        EditMender most = Check.of("field a scaled5weight9;field b scaled5weight9;field c scaled5weight9;"
            + "field d scaled5weight9;field e scaled5weight9;row 0 0 0 0 0;row 4 4 4 4 4;");
        Check.due("the farthest", 180, most.donor(0, 0, true));
        Check.due("the farthest", 180, most.donor(1, 0, true));
    }

    private static void farByNumbers() {
        Check.says("DONORS are told by FAR, the least first, then by numbers");
        EditMender x = Check.of(AB + "edit a in 0;row 1 4;row 1 0;row 2 4;row 0 2;row 2 2;row 2 0;row 1 2;row 1 1;");
        donors(x, 3, 4, 6, 7, 0, 1, 2, 5);
        EditMender all = Check.of("field a named 2;" + "row0;".repeat(40));
        int[] want = new int[39];
        for (int k = 0; k < 39; k++) {
            want[k] = k < 20 ? k : k + 1;
        }
        donors(all, 20, want);
    }

    private static void firstDonor() {
        Check.says("MENDED (way 0): as the first DONOR has it in the FIELDS of LEAST");
        EditMender x = Check.of(AB + "edit a in 0;row 0 2;row 1 0;row 2 3;row 1 1;");
        Check.due("would", 22, x.would(0, 0));
        Check.due("FIELDS", 1, x.mend(0, 0));
        Check.due("other FIELDS stay", "22 10 23 11", Check.allWritten(x));
    }

    private static void mostTogether() {
        Check.says("MENDED (way 1): so as most DONORS have these FIELDS together");
        EditMender x = Check.of("field k scaled 5;field a named 3;field b named 3;"
            + "row 0 ??;row 0 1 2;row 1 1 1;row 2 2 2;row 3 0 1;row 4 2 2;");
        Check.due("not each FIELD for itself", 22, x.would(0, 1));
        Check.due("the first DONOR's", 12, x.would(0, 0));
        x.tell(4, 1, 1);
        x.tell(5, 0, -1);
        Check.due("two of four", 11, x.would(0, 1));
        Check.due("one DONOR", 11, Check.of(AB + "row ??;row 1 1;").would(0, 1));
        EditMender groups = Check.of("field k scaled 5;field a named 3;field g named 2;group g;"
            + "row 0?0;row 0?1;row 1 1 0;row 2 2 0;row 0 1 1;row 0 1 1;row 3 2 1;");
        Check.due("three DONORS", 11, groups.would(1, 1));
        Check.due("two DONORS of another GROUP behind them", 10, groups.would(0, 1));
    }

    private static void mostTogetherFirst() {
        Check.says("MENDED (way 1): of several as the first DONOR (as DONORS are told) of these has it");
        EditMender x = Check.of(AB + "edit a in 0;row 0 0;row 1 4;row 2 3;row 1 3;row 2 2;");
        Check.due("by FAR, not by numbers", 20, x.would(0, 1));
        EditMender y = Check.of(AB + "edit a in 0;row 0 0;row 2 3;row 1 3;");
        Check.due("by numbers, as FAR", 20, y.would(0, 1));
        EditMender z = Check.of("field k scaled 5;" + A + "edit a in 0;row 0 0;row 1 1;row 2 2;row 3 2;row 4 1;row 1 0;");
        Check.due("one that has it is the first DONOR", 1, z.would(0, 1));
    }

    private static void leastValues() {
        Check.says("MENDED (way 2): the WAY of LEAST whose FORM, FIELD by FIELD of LEAST from the first on,"
            + " has the least VALUES (no DONOR is asked)");
        EditMender x = Check.of(AB + "edit a in 0;edit b in 0-1;row ??;row 0 0;row 2?;row 1 4;");
        int[] want = {12, 12, 22, 14};
        for (int row = 0; row < 4; row++) {
            Check.due("would " + row, want[row], x.would(row, 2));
        }
        EditMender y = Check.of(AB + "edit a in 0 and b in 0-3;row ??;");
        Check.due("the first FIELD ahead of the next", 4, y.would(0, 2));
        EditMender z = Check.of("field a named 2;field b named 2;field c named 3;edit b in 0 and c in 0-1;row ???;");
        Check.due("the second ahead of the last", 2, z.would(0, 2));
    }

    private static void withoutDonors() {
        Check.says("A ROW without DONORS is not MENDED by way 0, 1");
        EditMender x = Check.of(AB + "edit a in 0;row 0 1;row 0 2;row ?3;");
        for (int row = 0; row < 3; row++) {
            int that = row;
            Check.due("would " + row, -1, x.would(row, 0));
            Check.due("would " + row, -1, x.would(row, 1));
            Check.dueOf("mend " + row, Check.STATE, () -> x.mend(that, 0));
            Check.dueOf("mend " + row, Check.STATE, () -> x.mend(that, 1));
        }
        Check.due("none", 0, x.mendAll(0));
        Check.due("none", 0, x.mendAll(1));
        Check.due("by way 2", 3, x.mendAll(2));
    }

    private static void passingStays() {
        Check.says("MENDED: One that PASSES stays");
        EditMender x = Check.of(AB + "row 2 3;row 0 0;row 0 0;");
        for (int way = 0; way < 3; way++) {
            int that = way;
            Check.due("as it is", 23, x.would(0, way));
            Check.dueOf("mend", Check.STATE, () -> x.mend(0, that));
            Check.due("none is MENDED", 0, x.mendAll(way));
            Check.due("all stay", "23 00 00", Check.allWritten(x));
            Check.due("none is another one", 0, x.trial(way, 1));
        }
    }

    private static void donor() {
        Check.says("donor: The k-th DONOR (far false), or how FAR that is");
        EditMender x = Check.of(AB + "edit a in 0;row 0 0;row 1 4;row 2 3;");
        Check.due("the first", 2, x.donor(0, 0, false));
        Check.due("how FAR", 3, x.donor(0, 0, true));
        Check.due("the last", 1, x.donor(0, 1, false));
        Check.due("how FAR", 4, x.donor(0, 1, true));
        Check.due("of one that PASSES: by all FIELDS", 2, x.donor(1, 0, true));
        noSuchRow("donor", row -> x.donor(row, 0, false));
        noSuchRow("far", row -> x.donor(row, 0, true));
        Check.dueOf("no FIELDS", Check.INDEX, () -> new EditMender().donor(0, 0, true));
    }

    private static void donorBehind() {
        Check.says("donor: NONE behind them");
        EditMender x = Check.of(AB + "edit a in 0;row 0 0;row 1 4;row 2 3;");
        for (int k : new int[] {-1, 2, 3, 39, 40, Integer.MIN_VALUE, Integer.MAX_VALUE}) {
            Check.due("donor " + k, -1, x.donor(0, k, false));
            Check.due("far " + k, -1, x.donor(0, k, true));
        }
        for (int row = 0; row < 3; row++) {
            donors(Check.of(NOTHING), row);
        }
    }

    // ---- would, mend

    private static void would() {
        Check.says("would: What a ROW would be, MENDED by a way (0 to 2)");
        EditMender x = Check.of(AB + "edit a in 0;row 0 0;row 2 1;row 1 2;row 1 3;");
        int[] want = {20, 10, 10};
        for (int way = 0; way < 3; way++) {
            Check.due("would " + way, want[way], x.would(0, way));
            Check.due("one that PASSES as it is", 21, x.would(1, way));
        }
        Check.due("nothing stays", "00 21 12 13", Check.allWritten(x));
        Check.due("it is no ACT", 0, x.count(5));
    }

    private static void wouldDigits() {
        Check.says("would: its ANSWERS as digits of one number, FIELD 0 highest");
        EditMender x = Check.of("field a named5;field b named5;field c named5;field d named5;field e named5;"
            + "row 4 3 2 1 0;row 0 0 0 0 4;row 0 0 0 0 0;row 0 4 4 4?;");
        Check.due("five", 43210, x.would(0, 0));
        Check.due("0s ahead", 4, x.would(1, 0));
        Check.due("0s alone", 0, x.would(2, 0));
        Check.due("0s at both ends", 4440, x.would(3, 2));
    }

    private static void wouldNone() {
        Check.says("would: NONE: it is not MENDED");
        EditMender x = Check.of(NOTHING);
        for (int row = 0; row < 3; row++) {
            for (int way = 0; way < 3; way++) {
                Check.due("would " + row + " " + way, -1, x.would(row, way));
            }
        }
    }

    private static void wouldRefused() {
        Check.says("would: IndexOutOfBoundsException, IllegalArgumentException: the way is none");
        EditMender x = Check.of(AB + "edit a in 0;row 0 0;row 2 1;row ??;");
        for (int way : NO_WAYS) {
            for (int row = 0; row < 3; row++) {
                int that = row;
                Check.dueOf("way " + way, Check.ARGUMENT, () -> x.would(that, way));
            }
            noSuchRow("would by " + way, row -> x.would(row, way));
        }
        noSuchRow("would", row -> x.would(row, 0));
    }

    private static void mend() {
        Check.says("mend: A ROW is MENDED by a way: in how many FIELDS it is another one then");
        EditMender x = Check.of(AB + "edit a in 0;edit b in 0;row 0 0;row 0 2;row ??;row 1 2;");
        Check.due("two FIELDS", 2, x.mend(0, 0));
        Check.due("one FIELD", 1, x.mend(1, 1));
        Check.due("two MISSING", 2, x.mend(2, 2));
        Check.due("rows", "12 12 11 12", Check.allWritten(x));
        EditMender y = Check.of("field a named2;field b named2;field c named2;field d named2;field e named2;row ?????;");
        Check.due("five FIELDS", 5, y.mend(0, 2));
    }

    private static void mendNoWay() {
        Check.says("mend: IndexOutOfBoundsException, IllegalArgumentException: the way is none");
        EditMender x = Check.of(AB + "edit a in 0;row 0 0;row 2 1;row ??;");
        for (int way : NO_WAYS) {
            for (int row = 0; row < 3; row++) {
                int that = row;
                Check.dueOf("way " + way + " of ROW " + row, Check.ARGUMENT, () -> x.mend(that, way));
            }
            noSuchRow("mend by " + way, row -> x.mend(row, way));
        }
        noSuchRow("mend", row -> x.mend(row, 0));
        Check.due("nothing is MENDED", "00 21 ??", Check.allWritten(x));
    }

    private static void mendNot() {
        Check.says("mend: IllegalStateException: it PASSES, or is not MENDED");
        EditMender x = Check.of(AB + "edit a in 0;row 1 0;row 0 0;");
        EditMender nothing = Check.of(NOTHING);
        for (int way = 0; way < 3; way++) {
            int that = way;
            Check.dueOf("it PASSES", Check.STATE, () -> x.mend(0, that));
            for (int row = 0; row < 3; row++) {
                int other = row;
                Check.dueOf("nothing PASSES", Check.STATE, () -> nothing.mend(other, that));
            }
        }
        x.tell(0, 0, 0);
        Check.dueOf("no DONORS", Check.STATE, () -> x.mend(0, 0));
        Check.dueOf("no DONORS", Check.STATE, () -> x.mend(0, 1));
        Check.due("no DONOR is asked", 1, x.mend(0, 2));
    }

    private static void mendAll() {
        Check.says("mendAll: All that can be MENDED by a way are: how many ROWS");
        EditMender x = Check.of(AB + "group b;edit a in 0;row 0 0;row 0 1;row 2 1;row 0 1;row ?2;");
        Check.due("those with DONORS", 2, x.mendAll(0));
        Check.due("others stay", "00 21 21 21 ?2", Check.allWritten(x));
        Check.due("the others", 2, x.mendAll(2));
        Check.due("all PASS", "10 21 21 21 12", Check.allWritten(x));
        Check.due("none is left", 0, x.mendAll(2));
        Check.due("nothing PASSES", 0, Check.of(NOTHING).mendAll(2));
        Check.due("no ROWS", 0, Check.of(AB).mendAll(0));
        Check.due("no FIELDS", 0, new EditMender().mendAll(2));
        Check.due("all of 40", 40, Check.of("field a named 2;edit a in 0;" + "row0;".repeat(40)).mendAll(2));
    }

    private static void mendAllAsAhead() {
        Check.says("all are MENDED by a way (each by the ROWS as they were ahead of that)");
        EditMender x = Check.of(AB + "edit a in 0;row 0 1;row 0 0;row 2 4;row 1 2;row 0 3;");
        Check.due("ROWS", 3, x.mendAll(0));
        Check.due("a ROW MENDED gives nothing", "11 10 24 12 23", Check.allWritten(x));
        EditMender y = Check.of("field k scaled 5;" + A + "edit a in 0;row 2 0;row 4 0;row 1 1;row 3 2;row 4 2;row 0 1;");
        Check.due("ROWS", 2, y.mendAll(1));
        Check.due("nor is it counted with DONORS", "21 42 11 32 42 01", Check.allWritten(y));
    }

    private static void mendAllNoWay() {
        Check.says("mendAll: IllegalArgumentException: the way is none");
        EditMender x = Check.of(AB + "edit a in 0;row 0 0;row 2 1;");
        for (int way : NO_WAYS) {
            Check.dueOf("way " + way, Check.ARGUMENT, () -> x.mendAll(way));
            Check.dueOf("no FIELDS, way " + way, Check.ARGUMENT, () -> new EditMender().mendAll(way));
        }
        Check.due("nothing is MENDED", "00 21", Check.allWritten(x));
        Check.due("no ACT", 0, x.count(5));
    }

    private static void trial() {
        Check.says("TRIAL of a way: how many ROWS would PASS, how many ANSWERS would be others, how much these weigh");
        EditMender x = Check.of("field a named 3 weight 9;field b scaled 5 weight 2;group b;edit a in 0;edit b in 4;"
            + "row 0 0;row 0 4;row ?1;row 2 1;row ??;");
        int[][] want = {{4, 5, 31}, {4, 5, 31}, {5, 6, 40}};
        for (int way = 0; way < 3; way++) {
            for (int what = 0; what < 3; what++) {
                Check.due("trial " + way + " " + what, want[way][what], x.trial(way, what));
            }
        }
        for (int what = 0; what < 3; what++) {
            Check.due("no ROWS", 0, Check.of(AB).trial(0, what));
            Check.due("no FIELDS", 0, new EditMender().trial(2, what));
            Check.due("nothing PASSES", 0, Check.of(NOTHING).trial(2, what));
            Check.due("one PASSES, nothing is another one", what == 0 ? 1 : 0, Check.of(AB + "row 0 0;").trial(1, what));
        }
    }

    private static void trialStays() {
        Check.says("TRIAL: (nothing stays)");
        EditMender x = Check.of(AB + "edit a in 0;row 0 0;row 2 1;row ??;");
        for (int way = 0; way < 3; way++) {
            x.trial(way, way);
            Check.due("ROWS", "00 21 ??", Check.allWritten(x));
        }
        Check.due("no ACT", 0, x.count(5));
        Check.due("none to undo", -1, x.undo());
    }

    private static void trialRefused() {
        Check.says("trial: IllegalArgumentException: the way is none; NoSuchElementException: another what");
        EditMender x = Check.of(AB + "edit a in 0;row 0 0;row 2 1;");
        for (int what : new int[] {-1, 3, Integer.MIN_VALUE, Integer.MAX_VALUE}) {
            for (int way = 0; way < 3; way++) {
                int that = way;
                Check.dueOf("what " + what, Check.NO_SUCH, () -> x.trial(that, what));
            }
            for (int way : NO_WAYS) {
                Check.dueOf("way " + way + ", what " + what, Check.ARGUMENT, () -> x.trial(way, what));
            }
        }
        for (int way : NO_WAYS) {
            Check.dueOf("way " + way, Check.ARGUMENT, () -> x.trial(way, 0));
        }
    }

    // ---- acts

    private static void actKinds() {
        Check.says("ACTS: an ANSWER is told, a ROW comes, the last ROW goes, a ROW is MENDED, all are MENDED by a way");
        EditMender x = Check.of(AB + "edit a in 0;row 0 0;row 2 1;");
        x.tell(0, 1, 3);
        Check.due("told", 1, x.count(5));
        x.copy(0);
        Check.due("comes", 2, x.count(5));
        x.mend(0, 0);
        Check.due("MENDED", 3, x.count(5));
        x.mendAll(2);
        Check.due("all MENDED", 4, x.count(5));
        x.drop();
        Check.due("goes", 5, x.count(5));
        x.would(0, 0);
        x.trial(0, 0);
        x.write(0);
        x.end(0);
        x.donor(0, 0, false);
        x.bunch(-1, 0);
        Check.due("nothing else is one", 5, x.count(5));
        String[] want = {"23 21 13", "23 21 03", "03 21 03", "03 21", "00 21"};
        for (int k = 0; k < 5; k++) {
            Check.due("undo", 4 - k, x.undo());
            Check.due("ROWS", want[k], Check.allWritten(x));
        }
    }

    private static void actsWithoutChange() {
        Check.says("ACTS: Each is one also where nothing changes");
        EditMender x = Check.of(AB + "row 0 0;row 1?;");
        x.tell(0, 0, 0);
        Check.due("the same ANSWER", 1, x.count(5));
        x.tell(1, 1, -1);
        Check.due("MISSING as before", 2, x.count(5));
        x.tell(1, 1, 0);
        for (int way = 0; way < 3; way++) {
            Check.due("all PASS", 0, x.mendAll(way));
            Check.due("ACTS", 4 + way, x.count(5));
        }
        Check.due("undo", 5, x.undo());
        Check.due("ROWS", "00 10", Check.allWritten(x));
        EditMender none = new EditMender();
        Check.due("no FIELDS", 0, none.mendAll(0));
        Check.due("ACTS", 1, none.count(5));
        Check.due("undo", 0, none.undo());
        Check.due("undo", -1, none.undo());
    }

    private static void refusedIsNone() {
        Check.says("ACTS: what is refused is none");
        EditMender x = Check.of(A + "edit a in 0-2;" + "row0;".repeat(40));
        Check.dueOf("tell", Check.ARGUMENT, () -> x.tell(0, 0, 3));
        Check.dueOf("tell", Check.INDEX, () -> x.tell(40, 0, 0));
        Check.dueOf("copy", Check.STATE, () -> x.copy(0));
        Check.dueOf("copy", Check.INDEX, () -> x.copy(-1));
        Check.dueOf("mend", Check.STATE, () -> x.mend(0, 2));
        Check.dueOf("mend", Check.ARGUMENT, () -> x.mend(0, 3));
        Check.dueOf("mend", Check.INDEX, () -> x.mend(40, 0));
        Check.dueOf("mendAll", Check.ARGUMENT, () -> x.mendAll(-1));
        Check.due("ACTS", 0, x.count(5));
        Check.due("undo", -1, x.undo());
        EditMender none = Check.of(A);
        Check.dueOf("drop", Check.STATE, none::drop);
        Check.due("ACTS", 0, none.count(5));
    }

    private static void latestSixteen() {
        Check.says("ACTS (the latest 16 are kept)");
        for (int acts = 15; acts <= 18; acts++) {
            EditMender x = Check.of(A + "row 0;");
            for (int k = 0; k < acts; k++) {
                x.copy(0);
            }
            int kept = Math.min(acts, 16);
            Check.due("ACTS of " + acts, kept, x.count(5));
            for (int left = kept - 1; left >= 0; left--) {
                Check.due("undo", left, x.undo());
                Check.due("ROWS", 1 + acts - kept + left, x.count(2));
            }
            Check.due("no more", -1, x.undo());
            Check.due("ROWS stay", 1 + acts - kept, x.count(2));
        }
    }

    private static void undone() {
        Check.says("UNDONE: all ROWS are as ahead of it");
        EditMender x = Check.of(AB + "row 0 0;row 1 1;row 2?;");
        x.drop();
        x.drop();
        x.copy(0);
        x.tell(1, 1, 4);
        Check.due("ROWS", "00 04", Check.allWritten(x));
        String[] want = {"00 00", "00", "00 11", "00 11 2?"};
        for (int k = 0; k < 4; k++) {
            x.undo();
            Check.due("ROWS", want[k], Check.allWritten(x));
        }
        EditMender full = Check.of(A + "row2;".repeat(40));
        full.drop();
        full.copy(0);
        full.tell(39, 0, 0);
        full.undo();
        full.undo();
        full.undo();
        Check.due("the 40th", 2, full.answer(39, 0));
    }

    private static void undo() {
        Check.says("undo: The latest ACT is UNDONE: how many can be; NONE: there was none");
        Check.due("no FIELDS", -1, new EditMender().undo());
        EditMender x = Check.of(A + "row 0;");
        Check.due("none", -1, x.undo());
        x.tell(0, 0, 1);
        x.tell(0, 0, 2);
        Check.due("one more", 1, x.undo());
        Check.due("the ANSWER", 1, x.answer(0, 0));
        x.tell(0, 0, -1);
        Check.due("what was UNDONE is gone", 1, x.undo());
        Check.due("the ANSWER", 1, x.answer(0, 0));
        Check.due("none more", 0, x.undo());
        Check.due("the ANSWER", 0, x.answer(0, 0));
        Check.due("there was none", -1, x.undo());
        Check.due("ROWS stay", "0", Check.allWritten(x));
    }
}
