/** Promises 1 to 7: a new object, the tape, the text, its faults, its fields. */
public final class TextTest {
    private static final String TWO = "field a named 2 weight 3;field bc scaled 5;";
    private static final String INDEX = "throws.IndexOutOfBoundsException";
    private static final String ARGUMENT = "throws.IllegalArgumentException";
    private static final String NO_SUCH = "throws.NoSuchElementException";

    private TextTest() {
    }

    public static void main(String[] args) {
        newObject();
        tape();
        read();
        faultsOfTheText();
        faultsOfFields();
        faultsOfEdits();
        faultsOfRows();
        mostOfAll();
        fields();
        Check.end();
    }

    private static void newObject() {
        EditMender x = new EditMender();
        Check.due("NONE", -1, EditMender.NONE);
        for (int what = -1; what <= 11; what++) {
            Check.due("count " + what, what == 6 || what < 0 || what > 10 ? -1 : 0, x.count(what));
        }
        Check.due("boxes", 0, x.boxes());
        Check.due("passing", 0, x.passing());
        Check.due("fault", -1, x.fault());
        Check.due("undo", -1, x.undo());
        Check.due("octet", -1, x.octet(0));
        Check.due("urgent", -1, x.urgent(0));
        Check.dueOf("name", INDEX, () -> x.name(0, 0));
        Check.dueOf("answer", INDEX, () -> x.answer(0, 0));
        Check.dueOf("edit", INDEX, () -> x.edit(0, 0));
        Check.dueOf("tried", ARGUMENT, () -> x.tried(0));
    }

    private static void tape() {
        EditMender x = new EditMender();
        Check.due("end of an empty tape", true, x.end(0));
        Check.due("end behind it", false, x.end(1));
        for (int k = 1; k <= 20; k++) {
            Check.due("feed " + k, 20 * k, x.feed(0x20202020, 0x20202020, 0x20202020, 0x20202020, 0x20202020));
        }
        Check.due("feed of a full tape", -1, x.feed(0x41414141, 0, 0, 0, 0));
        Check.due("end below 0", false, x.end(-1));
        Check.due("end at the end", true, x.end(400));
        Check.due("end of 381", true, x.end(381));
        Check.due("feed behind 381", -1, x.feed(0, 0, 0, 0, 0));
        Check.due("end of 380", true, x.end(380));
        Check.due("feed behind 380", 400, x.feed(0x20202020, 0x20202020, 0x20202020, 0x20202020, 0x20202040));
        Check.dueOf("read", ARGUMENT, x::read);
        Check.due("the last byte of each number is the lowest", 399, x.fault());
        Check.due("the tape is used up", 20, x.feed(0x20202020, 0x20202020, 0x20202020, 0x20202020, 0x20FF2020));
        Check.due("end behind the fault", false, x.end(21));
        Check.dueOf("read", ARGUMENT, x::read);
        Check.due("numbers are bytes, the highest first", 17, x.fault());
    }

    private static void read() {
        EditMender x = Check.of(TWO + "row 0 1;row 1 4;");
        Check.due("rows", 2, x.count(2));
        x.tell(0, 0, 1);
        x.write(0);
        Check.due("a wrong text", ARGUMENT, Check.read(x, TWO + "row 2 1;"));
        Check.due("its fault", 47, x.fault());
        Check.due("rows stay", "11 14", Check.allWritten(x));
        Check.due("acts stay", 0, x.undo());
        Check.due("the tape is empty", ARGUMENT, Check.outcome(x::read));
        Check.due("the fault of no text", 0, x.fault());
        x.tell(0, 0, 1);
        x.write(1);
        Check.due("another text", 1, Check.read(x, "field z named 3;row 2;"));
        Check.due("no fault", -1, x.fault());
        Check.due("nothing can be undone", -1, x.undo());
        Check.due("no acts", 0, x.count(5));
        Check.due("what was written stays", 2, x.count(8));
        Check.due("fields of the text", 1, x.count(0));
        Check.due("the row", "2", Check.allWritten(x));
        Check.due("a group", 0, Check.read(x, TWO + "group a;"));
        Check.due("the field of groups", 0, x.count(6));
        Check.due("another group", 0, Check.read(x, TWO + "group bc;"));
        Check.due("the field of groups", 1, x.count(6));
        Check.due("fields alone", 0, Check.read(x, TWO));
        Check.due("no groups", -1, x.count(6));
        Check.due("no rows", 0, x.count(2));
    }

    private static void fault(String text, int at) {
        EditMender x = new EditMender();
        Object answer = Check.read(x, text);
        Check.due("read() of '" + text + "'", at < 0, answer instanceof Integer);
        Check.due("fault() of '" + text + "'", at, x.fault());
    }

    /** A text that is right up to its '|', and wrong there. */
    private static void wrongAt(String text) {
        fault(text.replace("|", ""), text.indexOf('|'));
    }

    private static void right(String text) {
        fault(text, -1);
    }

    private static void faultsOfTheText() {
        wrongAt("|");
        wrongAt(" \n\t|");
        wrongAt("|edit a in 0;");
        wrongAt("|row 0;");
        wrongAt("|group a;");
        wrongAt("|fields a named 2;");
        wrongAt("|fiel");
        wrongAt("|;");
        wrongAt("|0");
        wrongAt("|Field a named 2;");
        wrongAt("  |\r");
        wrongAt("field a named 2;|;");
        wrongAt("field a named 2;|and");
        wrongAt("field a named 2;row 0;|field b named 2;");
        wrongAt("field a named 2;group a;|field b named 2;");
        wrongAt("field a named 2;group a;|group a;");
        wrongAt("field a named 2;group |b;");
        wrongAt("field a named 2;group |");
        wrongAt("field a named 2;group a|");
        wrongAt("field a named 2;group a |a;");
        right("\tfield\na named2;group a;");
        right("field a named 2 ; row ? ; edit a in 0 ; group a ; ");
    }

    private static void faultsOfFields() {
        wrongAt("field|");
        wrongAt("field |0");
        wrongAt("field |abcdefg named 2;");
        right("field abcdef named 2;");
        for (String own : "field named scaled weight group edit and in row".split(" ")) {
            wrongAt("field |" + own + " named 2;");
            right("field " + own.charAt(0) + "q named 2;");
        }
        wrongAt("field a named 2;field |a named 2;");
        right("field a named 2;field aa named 2;");
        wrongAt("field a |2;");
        wrongAt("field a|;field b named 2;");
        wrongAt("field a |name");
        wrongAt("field a named|;");
        wrongAt("field a named |1;");
        wrongAt("field a named |6;");
        wrongAt("field a named |22;");
        wrongAt("field a named |02;");
        wrongAt("field a named |x;");
        right("field a named 5;");
        wrongAt("field a named 2|");
        wrongAt("field a named 2  |");
        wrongAt("field a named 2 |3;");
        wrongAt("field a named 2 |weigh 3;");
        wrongAt("field a named 2 weight|");
        wrongAt("field a named 2 weight |0;");
        wrongAt("field a named 2 weight |10;");
        wrongAt("field a named 2 weight |99;");
        right("field a named 2 weight 1;");
        wrongAt("field a named 2 weight 9|");
        wrongAt("field a named 2 weight 9 |weight 9;");
        right("field a scaled2weight9;");
    }

    private static void faultsOfEdits() {
        wrongAt("field a named 3;edit|");
        wrongAt("field a named 3;edit |;");
        wrongAt("field a named 3;edit |b in 0;");
        wrongAt("field a named 3;edit a |0;");
        wrongAt("field a named 3;edit a in |;");
        wrongAt("field a named 3;edit a|;");
        wrongAt("field a named 3;edit a in 0-|;");
        wrongAt("field a named 3;edit a in |3;");
        wrongAt("field a named 3;edit a in |00;");
        wrongAt("field a named 3;edit a in |?;");
        wrongAt("field a named 3;edit a in 0|");
        wrongAt("field a named 3;edit a in 0-|");
        wrongAt("field a named 3;edit a in 1-|0;");
        wrongAt("field a named 3;edit a in 1-|3;");
        wrongAt("field a named 3;edit a in 1-1|-2;");
        wrongAt("field a named 3;edit a in 1,|;");
        wrongAt("field a named 3;edit a in 1 |2;");
        wrongAt("field a named 3;edit a in 1 and|");
        wrongAt("field a named 3;edit a in 1 and |a in 2;");
        wrongAt("field a named 3;edit a in 1 |or;");
        wrongAt("field a named 3;field b named 2;edit b in 1 and a in 2 and |b in 0;");
        wrongAt("field a named 3;field b named 2;edit b in |2;");
        right("field a named 3;edit a in0-0,2,1-2;");
        right("field a named 3;field b named 2;edit b in 1and a in 2;");
    }

    private static void faultsOfRows() {
        wrongAt("field a named 3;field b named 2;row|");
        wrongAt("field a named 3;field b named 2;row 0|;");
        wrongAt("field a named 3;field b named 2;row 0 |2;");
        wrongAt("field a named 3;field b named 2;row |3 0;");
        wrongAt("field a named 3;field b named 2;row |01;");
        wrongAt("field a named 3;field b named 2;row 0 1 |0;");
        wrongAt("field a named 3;field b named 2;row 0 1|?;");
        wrongAt("field a named 3;field b named 2;row 0 1|");
        wrongAt("field a named 3;field b named 2;row 0 |a;");
        wrongAt("field a named 3;field b named 2;row ? |- 1;");
        right("field a named 3;field b named 2;row??;row2?;row?1;row 2 1;");
    }

    private static void mostOfAll() {
        String five = "field a named 2;field b named 2;field c named 2;field d named 2;field e named 2;";
        right(five);
        wrongAt(five + "|field a named 2;");
        String edits = "edit a in 0;".repeat(6);
        right(five + edits);
        wrongAt(five + edits + "|edit x");
        wrongAt(five + "edit a in 0and b in 0and c in 0and d in 0and e in 0and |a in 0;");
        right(five + "edit e in 0and b in 0and c in 0and d in 0and a in 0;");
        String rows = "row0;".repeat(40);
        right("field a named 2;" + rows);
        wrongAt("field a named 2;" + rows + "|row0;");
        right("field a named 2;" + " ".repeat(384));
    }

    private static void fields() {
        EditMender x = Check.of(TWO + "group bc;");
        int[][] want = {{2, 3, 0, 0}, {5, 1, 1, 1}};
        for (int field = 0; field < 2; field++) {
            for (int what = 0; what < 4; what++) {
                Check.due("field " + field + " " + what, want[field][what], x.field(field, what));
            }
        }
        Check.dueOf("another what", NO_SUCH, () -> x.field(0, 4));
        Check.dueOf("a what below 0", NO_SUCH, () -> x.field(0, -1));
        Check.dueOf("no such field comes first", INDEX, () -> x.field(2, 4));
        Check.dueOf("no such field", INDEX, () -> x.field(-1, 0));
        Check.due("letter", (int) 'b', x.name(1, 0));
        Check.due("letter", (int) 'c', x.name(1, 1));
        Check.due("behind the name", -1, x.name(1, 2));
        Check.due("ahead of the name", -1, x.name(1, -1));
        Check.dueOf("no such field", INDEX, () -> x.name(2, 0));
        EditMender y = Check.of("field abcdef named 2;");
        Check.due("the sixth letter", (int) 'f', y.name(0, 5));
        Check.due("no seventh letter", -1, y.name(0, 6));
    }
}
