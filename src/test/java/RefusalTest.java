import java.util.ArrayList;
import java.util.List;

/**
 * The sentences behind the Terms: which of several exceptions is thrown, and that a call that throws changes
 * nothing but the TAPE, where it is used up, and fault(), where a text is read.
 */
public final class RefusalTest {
    private static final int NO = 77;

    private interface Refused {
        Object run(EditMender x);
    }

    private record Case(String name, String due, Refused call) {
    }

    private RefusalTest() {
    }

    public static void main(String[] args) {
        firstTold();
        changesNothing();
        onANewObject();
        wrongText();
        Check.end();
    }

    /** Each call with all that can be wrong in it at once, then with what is told first put right, and so on. */
    private static List<Case> cases() {
        List<Case> cases = new ArrayList<>();
        ofTheText(cases);
        ofRows(cases);
        ofSets(cases);
        ofWays(cases);
        ofGroups(cases);
        return cases;
    }

    private static void ofTheText(List<Case> cases) {
        cases.add(new Case("field", Check.INDEX, x -> x.field(NO, NO)));
        cases.add(new Case("field", Check.NO_SUCH, x -> x.field(0, NO)));
        cases.add(new Case("name", Check.INDEX, x -> x.name(NO, NO)));
        cases.add(new Case("edit", Check.INDEX, x -> x.edit(NO, NO)));
        cases.add(new Case("edit", Check.INDEX, x -> x.edit(0, NO)));
        cases.add(new Case("edit", Check.INDEX, x -> x.edit(NO, 0)));
        cases.add(new Case("from", Check.NO_SUCH, x -> x.from(NO)));
        cases.add(new Case("cover", Check.NO_SUCH, x -> x.cover(NO, false)));
        cases.add(new Case("cover", Check.NO_SUCH, x -> x.cover(NO, true)));
        cases.add(new Case("idle", Check.INDEX, x -> x.idle(NO)));
        cases.add(new Case("box", Check.NO_SUCH, x -> x.box(NO, NO)));
        cases.add(new Case("box", Check.INDEX, x -> x.box(0, NO)));
        cases.add(new Case("tried", Check.ARGUMENT, x -> x.tried(NO)));
    }

    private static void ofRows(List<Case> cases) {
        cases.add(new Case("answer", Check.INDEX, x -> x.answer(NO, NO)));
        cases.add(new Case("answer", Check.INDEX, x -> x.answer(0, NO)));
        cases.add(new Case("tell", Check.INDEX, x -> x.tell(NO, NO, NO)));
        cases.add(new Case("tell", Check.INDEX, x -> x.tell(0, NO, NO)));
        cases.add(new Case("tell", Check.INDEX, x -> x.tell(NO, 0, NO)));
        cases.add(new Case("tell", Check.ARGUMENT, x -> x.tell(0, 0, NO)));
        cases.add(new Case("copy", Check.INDEX, x -> x.copy(NO)));
        cases.add(new Case("fails", Check.INDEX, x -> x.fails(NO)));
        cases.add(new Case("within", Check.INDEX, x -> x.within(NO, NO)));
        cases.add(new Case("within", Check.STATE, x -> x.within(2, NO)));
        cases.add(new Case("may", Check.INDEX, x -> x.may(NO, NO)));
        cases.add(new Case("may", Check.INDEX, x -> x.may(2, NO)));
        cases.add(new Case("may", Check.STATE, x -> x.may(2, 0)));
        cases.add(new Case("likely", Check.INDEX, x -> x.likely(NO, NO)));
        cases.add(new Case("likely", Check.INDEX, x -> x.likely(2, NO)));
        cases.add(new Case("likely", Check.STATE, x -> x.likely(2, 0)));
        cases.add(new Case("blame", Check.INDEX, x -> x.blame(NO)));
        cases.add(new Case("blame", Check.STATE, x -> x.blame(2)));
    }

    private static void ofSets(List<Case> cases) {
        cases.add(new Case("mends", Check.INDEX, x -> x.mends(NO, NO)));
        cases.add(new Case("mends", Check.ARGUMENT, x -> x.mends(0, NO)));
        cases.add(new Case("ways", Check.INDEX, x -> x.ways(NO, NO)));
        cases.add(new Case("ways", Check.ARGUMENT, x -> x.ways(0, NO)));
        cases.add(new Case("least", Check.INDEX, x -> x.least(NO, NO)));
        cases.add(new Case("least", Check.NO_SUCH, x -> x.least(0, NO)));
        cases.add(new Case("leastOf", Check.INDEX, x -> x.leastOf(NO, NO)));
        cases.add(new Case("values", Check.INDEX, x -> x.values(NO, NO, NO)));
        cases.add(new Case("values", Check.INDEX, x -> x.values(0, NO, NO)));
        cases.add(new Case("values", Check.INDEX, x -> x.values(NO, NO, 0)));
        cases.add(new Case("values", Check.ARGUMENT, x -> x.values(0, NO, 0)));
        cases.add(new Case("forced", Check.INDEX, x -> x.forced(NO)));
    }

    private static void ofWays(List<Case> cases) {
        cases.add(new Case("donor", Check.INDEX, x -> x.donor(NO, NO, false)));
        cases.add(new Case("donor", Check.INDEX, x -> x.donor(NO, NO, true)));
        cases.add(new Case("would", Check.INDEX, x -> x.would(NO, NO)));
        cases.add(new Case("would", Check.ARGUMENT, x -> x.would(0, NO)));
        cases.add(new Case("mend", Check.INDEX, x -> x.mend(NO, NO)));
        cases.add(new Case("mend of one that PASSES", Check.ARGUMENT, x -> x.mend(1, NO)));
        cases.add(new Case("mend of one that PASSES", Check.STATE, x -> x.mend(1, 0)));
        cases.add(new Case("mend without DONORS", Check.ARGUMENT, x -> x.mend(3, NO)));
        cases.add(new Case("mend without DONORS", Check.STATE, x -> x.mend(3, 0)));
        cases.add(new Case("mend without DONORS", Check.STATE, x -> x.mend(3, 1)));
        cases.add(new Case("mendAll", Check.ARGUMENT, x -> x.mendAll(NO)));
        cases.add(new Case("trial", Check.ARGUMENT, x -> x.trial(NO, NO)));
        cases.add(new Case("trial", Check.NO_SUCH, x -> x.trial(0, NO)));
    }

    private static void ofGroups(List<Case> cases) {
        cases.add(new Case("pattern", Check.NO_SUCH, x -> x.pattern(NO, NO)));
        cases.add(new Case("pattern", Check.NO_SUCH, x -> x.pattern(0, NO)));
        cases.add(new Case("alike", Check.INDEX, x -> x.alike(NO, true)));
        cases.add(new Case("near", Check.INDEX, x -> x.near(NO, 0)));
        cases.add(new Case("near", Check.INDEX, x -> x.near(0, NO)));
        cases.add(new Case("bunch", Check.INDEX, x -> x.bunch(NO, NO)));
        cases.add(new Case("changes", Check.INDEX, x -> x.changes(NO)));
        cases.add(new Case("group", Check.ARGUMENT, x -> x.group(NO, NO)));
        cases.add(new Case("group", Check.NO_SUCH, x -> x.group(0, NO)));
        cases.add(new Case("usual", Check.INDEX, x -> x.usual(NO, NO)));
        cases.add(new Case("usual", Check.ARGUMENT, x -> x.usual(NO, 0)));
        cases.add(new Case("share", Check.INDEX, x -> x.share(NO, NO)));
        cases.add(new Case("share", Check.ARGUMENT, x -> x.share(0, NO)));
        cases.add(new Case("write", Check.INDEX, x -> x.write(NO)));
    }

    /** A text, an act, a row written, a fault of a later text, and bytes on the tape. */
    private static EditMender busy() {
        EditMender x = Check.of("field a named 3 weight 2;field b scaled 5;group b;edit a in 0;edit a in 1 and b in 4;"
            + "row 0 0;row 2 1;row ??;row 0 4;");
        x.tell(0, 1, 1);
        x.write(2);
        Check.due("a wrong text", Check.ARGUMENT, Check.read(x, "field c scaled 5;row 7;"));
        x.feed(0, 0, 0, 0, 0);
        x.end(13);
        return x;
    }

    private static String state(EditMender x) {
        StringBuilder text = new StringBuilder();
        for (int what = 0; what <= 10; what++) {
            text.append(x.count(what)).append(" ");
        }
        for (int row = 0; row < x.count(2); row++) {
            for (int field = 0; field < x.count(0); field++) {
                text.append(x.answer(row, field)).append(" ");
            }
        }
        for (int k = 0; k < 5; k++) {
            text.append(x.octet(k)).append(" ");
        }
        text.append("fault ").append(x.fault()).append(" boxes ").append(x.boxes()).append(" passing ").append(x.passing());
        return text.append(" tape ").append(x.end(14)).append(x.end(13)).toString();
    }

    private static void firstTold() {
        Check.says("Of several exceptions the one told first is thrown");
        EditMender x = busy();
        for (Case refused : cases()) {
            Check.dueOf(refused.name, refused.due, () -> refused.call.run(x));
        }
        EditMender full = Check.of("field a named 2;" + "row0;".repeat(40));
        Check.dueOf("copy of no ROW, 40 ROWS", Check.INDEX, () -> full.copy(40));
        Check.dueOf("copy of a ROW, 40 ROWS", Check.STATE, () -> full.copy(39));
        EditMender none = Check.of("field a named 2;row 0;");
        Check.dueOf("group without GROUPS", Check.STATE, () -> none.group(NO, NO));
        Check.dueOf("usual without GROUPS, no FIELD", Check.INDEX, () -> none.usual(NO, NO));
        Check.dueOf("usual without GROUPS", Check.STATE, () -> none.usual(NO, 0));
    }

    private static void changesNothing() {
        Check.says("a call that throws changes nothing");
        String before = state(busy());
        Check.due("the state", "2 2 4 1 2 1 1 15 2 3 4 0 1 2 1 -1 -1 0 4 63 63 -1 -1 -1"
            + " fault 21 boxes 2 passing 9 tape falsetrue", before);
        for (Case refused : cases()) {
            EditMender x = busy();
            Check.outcome(() -> refused.call.run(x));
            Check.due("the state behind " + refused.name, before, state(x));
            Check.due("undo behind " + refused.name, 0, x.undo());
            Check.due("the ACT is the same behind " + refused.name, 0, x.answer(0, 1));
        }
        EditMender full = Check.of("field a named 2;" + "row0;".repeat(40));
        String all = state(full);
        Check.outcome(() -> full.copy(0));
        Check.due("the state behind copy", all, state(full));
        EditMender none = Check.of("field a named 2;");
        String nothing = state(none);
        Check.outcome(none::drop);
        Check.outcome(() -> none.group(0, 0));
        Check.outcome(() -> none.usual(0, 0));
        Check.due("the state behind drop, group, usual", nothing, state(none));
    }

    private static void onANewObject() {
        Check.says("a call that throws changes nothing (on a new object)");
        String before = state(new EditMender());
        EditMender x = new EditMender();
        for (Case refused : cases()) {
            Object answer = Check.outcome(() -> refused.call.run(x));
            boolean thrown = answer instanceof String && ((String) answer).startsWith("throws.");
            Check.due(refused.name + " throws", true, thrown);
        }
        Check.due("the state", before, state(x));
        Check.due("undo", -1, x.undo());
    }

    private static void wrongText() {
        Check.says("but the TAPE, where it is used up, and fault(), where a text is read");
        EditMender x = busy();
        String before = state(x);
        Check.dueOf("read", Check.ARGUMENT, x::read);
        Check.due("THE FAULT", 0, x.fault());
        Check.due("the TAPE is used up", false, x.end(1));
        for (int k = 0; k < 20; k++) {
            x.feed(0x20202020, 0x20202020, 0x20202020, 0x20202020, 0x20202020);
        }
        x.end(13);
        Check.due("nothing else", before.replace("fault 21", "fault 0"), state(x));
        Check.due("undo", 0, x.undo());
        Check.due("the ACT is the same", 0, x.answer(0, 1));
    }
}
