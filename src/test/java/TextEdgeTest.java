/** The boundaries that 'Terms' 1 and promises 1 to 7 name: a test for each sentence of theirs. */
public final class TextEdgeTest {
    private static final String A = "field a named 3;";
    private static final String AB = "field a named 3;field b scaled 5;";
    private static final String[] OWN = {"field", "named", "scaled", "weight", "group", "edit", "and", "in", "row"};
    private static final int BLANKS = 0x20202020;

    private TextEdgeTest() {
    }

    public static void main(String[] args) {
        mostBytes();
        lines();
        fieldLine();
        groupLine();
        editLine();
        spans();
        rowLine();
        names();
        ownWords();
        digits();
        blanks();
        words();
        fieldCount();
        fieldsAhead();
        values();
        weights();
        groupOnce();
        editCount();
        eachOnce();
        secondNumber();
        rowCount();
        answerForEach();
        faultOfWords();
        faultOfNumbers();
        faultOfNames();
        faultAtThatWord();
        faultAtTheEnd();
        none();
        lastCall();
        newObject();
        feed();
        feedHighestFirst();
        end();
        endBehind();
        readUsesUp();
        readInPlace();
        readFewerBoxes();
        readNothingUndone();
        readHowMany();
        readWrong();
        fault();
        field();
        fieldRefused();
        name();
        nameRefused();
        Check.end();
    }

    /** A text with as many blanks ahead of its last sign that it has so many bytes. */
    private static String filled(String text, int length) {
        int last = text.length() - 1;
        return text.substring(0, last) + " ".repeat(length - text.length()) + text.substring(last);
    }

    // ---- the text

    private static void mostBytes() {
        Check.says("THE TEXT has at most 400 bytes");
        String text = filled(A + "row 2;", 400);
        EditMender x = Check.of(text);
        Check.due("the answer of the row at the end", 2, x.answer(0, 0));
        Check.fault(text.substring(0, 399) + "|");
        Check.fault(text.substring(0, 399) + "|?");
        Check.fault(filled(A, 399));
    }

    private static void lines() {
        Check.says("{ LINE ; }");
        Check.fault(A);
        Check.fault("field a named 3|");
        Check.fault(A + "|;");
        Check.fault("|;" + A);
        Check.fault(A + "row 0|");
        Check.fault(A + "row 0;|;");
        Check.fault(A + "row 0|,");
    }

    private static void fieldLine() {
        Check.says("field NAME SORT N [ weight N ]");
        Check.fault("field a named 3 weight 2;");
        Check.fault("field |named 3;");
        Check.fault(A + "field|;");
        Check.fault(A + "field b|;");
        Check.fault(A + "field b named|;");
        Check.fault(A + "field b named 3 weight|;");
        Check.fault("field a |3;");
        Check.fault("field a |b 3;");
        Check.fault("field a |weight 3;");
        Check.fault("field a named |weight 3;");
        Check.fault("field a named |scaled 3;");
        Check.fault("field a named 3 weight|;");
        Check.fault("field a named 3 weight 2 |weight 2;");
        Check.fault("field a named 3 |2;");
        Check.fault("field a named 3|,field b named 3;");
    }

    private static void groupLine() {
        Check.says("group NAME");
        Check.fault(AB + "group b;");
        Check.fault(AB + "group|;");
        Check.fault(AB + "group |0;");
        Check.fault(AB + "group a |b;");
        Check.fault(AB + "group a|,b;");
    }

    private static void editLine() {
        Check.says("edit TEST { and TEST }; TEST: NAME in SPAN { , SPAN }");
        Check.fault(AB + "edit a in 0;");
        Check.fault(AB + "edit a in 0 and b in 0;");
        Check.fault(AB + "edit|;");
        Check.fault(AB + "edit |and a in 0;");
        Check.fault(AB + "edit a in 0 and|;");
        Check.fault(AB + "edit a in 0 and |and b in 0;");
        Check.fault(AB + "edit a in 0 |b in 0;");
        Check.fault(AB + "edit a|;");
        Check.fault(AB + "edit a |0;");
        Check.fault(AB + "edit a |and b in 0;");
        Check.fault(AB + "edit a in|;");
        Check.fault(AB + "edit a in |in 0;");
        Check.fault(AB + "edit a in |and b in 0;");
    }

    private static void spans() {
        Check.says("SPAN: N [ - N ], told once or more");
        Check.fault(AB + "edit b in 4;");
        Check.fault(AB + "edit b in 0-4;");
        Check.fault(AB + "edit b in 0,1,2,3,4,0-4,4-4,0;");
        Check.fault(AB + "edit b in |,1;");
        Check.fault(AB + "edit b in 0,|;");
        Check.fault(AB + "edit b in 0,|,1;");
        Check.fault(AB + "edit b in |-4;");
        Check.fault(AB + "edit b in 0-|;");
        Check.fault(AB + "edit b in 0-|,1;");
        Check.fault(AB + "edit b in 0-|-1;");
        Check.fault(AB + "edit b in 0-1|-2;");
        Check.fault(AB + "edit b in 0 |1;");
        Check.due("a VALUE told more than once", 19, Check.of(AB + "edit b in 1,0-1,4,4-4,0;").edit(0, 1));
    }

    private static void rowLine() {
        Check.says("row ANSWER { ANSWER }; ANSWER: N | ?");
        Check.fault(AB + "row 0 4;");
        Check.fault(AB + "row ? ?;");
        Check.fault(AB + "row??;");
        Check.fault(AB + "row 2?;");
        Check.fault(AB + "row|;");
        Check.fault(AB + "row |,0;");
        Check.fault(AB + "row 0|,0;");
        Check.fault(AB + "row |a 0;");
        Check.fault(AB + "row 0|-1;");
    }

    private static void names() {
        Check.says("NAMES: 1 to 6 letters a to z");
        Check.fault("field z named 2;");
        Check.fault("field azazaz named 2;");
        Check.fault("field |azazaza named 2;");
        Check.fault("field |7 named 2;");
        Check.fault("field |? named 2;");
        Check.fault("field |A named 2;");
        Check.fault("field a|A named 2;");
        Check.fault("field |` named 2;");
        Check.fault("field |{ named 2;");
        Check.fault("field |\u00e4 named 2;");
        Check.fault("field a|_b named 2;");
    }

    private static void ownWords() {
        Check.says("NAMES: none of field, named, scaled, weight, group, edit, and, in, row");
        for (String own : OWN) {
            Check.fault("field |" + own + " named 2;");
            Check.fault(A + "field |" + own + " scaled 2;");
            String longer = own + "s";
            Check.fault("field " + (longer.length() > 6 ? "|" : "") + longer + " named 2;");
            Check.fault("field " + own.substring(1) + " named 2;");
            Check.fault("field " + own.substring(0, own.length() - 1) + " named 2;");
        }
    }

    private static void digits() {
        Check.says("N: one digit");
        Check.fault("field a named |33;");
        Check.fault("field a named |03;");
        Check.fault("field a named |333333333333;");
        Check.fault("field a named |4294967298;");
        Check.fault("field a named 3 weight |01;");
        Check.fault("field a named 3 weight |11;");
        Check.fault("field a named 3 weight |19;");
        Check.fault("field a named 3 weight |99;");
        Check.fault(A + "edit a in |01;");
        Check.fault(A + "edit a in 0-|01;");
        Check.fault(A + "edit a in 0,|00;");
        Check.fault(A + "row |00;");
        Check.fault(AB + "row |00;");
        Check.fault("field a named |/;");
        Check.fault("field a named |:;");
        Check.fault("field a named |-3;");
        Check.fault("field a named |+3;");
    }

    private static void blanks() {
        Check.says("BLANKS (9, 10, 32) may stand between all");
        String parts = "field a named 3 weight 2 ; group a ; edit a in 0 - 1 , 2 ; row ? ; row 1 ;";
        for (String blank : new String[] {" ", "\t", "\n", "\n\t  \t\n"}) {
            String text = blank + parts.replace(" ", blank) + blank;
            Check.fault(text);
            Check.due("rows", 2, Check.of(text).count(2));
        }
        Check.fault("field a named3weight2;group a;edit a in0-1,2;row?;row1;");
        for (char other : new char[] {0, 8, 11, 12, 13, 31, 33, 127, 133, 160, 255}) {
            Check.fault("field|" + other + "a named 3;");
            Check.fault("|" + other + A);
            Check.fault(A + "|" + other);
            Check.fault(A + "row 1|" + other + ";");
        }
    }

    private static void words() {
        Check.says("words are as many small letters as stand there");
        Check.fault("|fielda named 3;");
        Check.fault("|fiel d a named 3;");
        Check.fault("field anamed |3;");
        Check.fault("field a |namedx 3;");
        Check.fault("field a named 3 |weightx 2;");
        Check.fault("field a named 3|W 2;");
        Check.fault("|Field a named 3;");
        Check.fault(A + "group |aa;");
        Check.fault(A + "edit |ain 0;");
        Check.fault(A + "edit a |inn 0;");
        Check.fault(A + "|rows 0;");
        Check.fault(A + "|rowrow 0;");
        Check.fault(A + "edit a in 0and|;");
    }

    // ---- how many there may be

    private static void fieldCount() {
        Check.says("FIELDS, 1 to 5");
        String text = "";
        Check.fault("|");
        for (int n = 1; n <= 5; n++) {
            text += "field " + (char) ('a' + n) + " named 2;";
            Check.fault(text);
            Check.due("FIELDS", n, Check.of(text).count(0));
        }
        Check.fault(text + "|field z named 2;");
        Check.fault(text + "|field");
    }

    private static void fieldsAhead() {
        Check.says("FIELDS ahead of all other LINES");
        Check.fault(A + "group a;|field b named 2;");
        Check.fault(A + "edit a in 0;|field b named 2;");
        Check.fault(A + "row 0;|field b named 2;");
        Check.fault(A + "row 0;|field");
        Check.fault(A + "row 0;edit a in 0;row 1;group a;edit a in 1;");
    }

    private static void values() {
        Check.says("VALUES are 0 to N less 1 (N: 2 to 5)");
        for (int n = 0; n <= 9; n++) {
            Check.fault("field a scaled " + (n < 2 || n > 5 ? "|" : "") + n + ";");
        }
        for (int n = 2; n <= 5; n++) {
            String field = "field a named " + n + ";";
            EditMender x = Check.of(field + "row 0;row " + (n - 1) + ";edit a in 0-" + (n - 1) + ";");
            Check.due("VALUES", n, x.field(0, 0));
            Check.due("the last VALUE", n - 1, x.answer(1, 0));
            Check.fault(field + "row |" + n + ";");
            Check.fault(field + "edit a in |" + n + ";");
            Check.fault(field + "edit a in 0-|" + n + ";");
        }
    }

    private static void weights() {
        Check.says("WEIGHT 1 to 9 (1 without)");
        for (int weight = 1; weight <= 9; weight++) {
            EditMender x = Check.of("field a named 2 weight " + weight + ";");
            Check.due("WEIGHT", weight, x.field(0, 1));
        }
        Check.fault("field a named 2 weight |0;");
        Check.fault("field a named 2 weight |10;");
        Check.due("WEIGHT", 1, Check.of("field a named 2;").field(0, 1));
    }

    private static void groupOnce() {
        Check.says("group: the FIELD of GROUPS, once at most");
        Check.due("without", -1, Check.of(AB).count(6));
        Check.due("once", 1, Check.of(AB + "group b;").count(6));
        Check.fault(AB + "group b;|group a;");
        Check.fault(AB + "group b;|group b;");
        Check.fault(AB + "group b;row ? ?;|group");
    }

    private static void editCount() {
        Check.says("EDITS, at most 6, numbered");
        for (int n = 0; n <= 6; n++) {
            EditMender x = Check.of("field a scaled 5;" + "edit a in 1;".repeat(Math.max(0, n - 1))
                    + (n > 0 ? "edit a in 4;" : ""));
            Check.due("EDITS", n, x.count(1));
            Check.due("the last one", n == 0 ? Check.INDEX : (Object) 16, Check.outcome(() -> x.edit(x.count(1) - 1, 0)));
        }
        Check.fault(A + "edit a in 0;".repeat(6) + "|edit a in 0;");
    }

    private static void eachOnce() {
        Check.says("of some FIELDS (each once) a set of VALUES");
        String five = "field a named 2;field b named 2;field c named 2;field d named 2;field e named 2;";
        Check.fault(five + "edit e in 0and d in 0and c in 0and b in 0and a in 0;");
        Check.fault(five + "edit e in 0and d in 0and c in 0and b in 0and a in 0and |e in 0;");
        Check.fault(five + "edit a in 0and |a in 1;");
        Check.fault(five + "edit e in 0and a in 0and |e in 0;");
        Check.fault(five + "edit|;");
        Check.fault(five + "edit a in 0;edit a in 0;");
    }

    private static void secondNumber() {
        Check.says("a SPAN's second number is not below the first");
        Check.fault(AB + "edit b in 4-4;");
        Check.fault(AB + "edit b in 0-0;");
        Check.fault(AB + "edit b in 3-4;");
        Check.fault(AB + "edit b in 4-|3;");
        Check.fault(AB + "edit b in 1-|0;");
        Check.fault(AB + "edit b in 0,4-|0;");
        Check.due("one VALUE", 16, Check.of(AB + "edit b in 4-4;").edit(0, 1));
    }

    private static void rowCount() {
        Check.says("ROWS, at most 40, numbered");
        Check.due("none", 0, Check.of(A).count(2));
        EditMender x = Check.of(A + "row0;".repeat(39) + "row2;");
        Check.due("40", 40, x.count(2));
        Check.due("the last one", 2, x.answer(39, 0));
        Check.fault(A + "row0;".repeat(40) + "|row0;");
    }

    private static void answerForEach() {
        Check.says("an ANSWER for each FIELD: a VALUE, or ? (MISSING)");
        Check.fault(A + "row|;");
        Check.fault(A + "row 0;");
        Check.fault(A + "row 0 |0;");
        Check.fault(A + "row 0|?;");
        Check.fault(AB + "row 0|;");
        Check.fault(AB + "row ?|;");
        Check.fault(AB + "row 0 0 |0;");
        Check.fault(AB + "row ? ? |?;");
        Check.fault(AB + "row |3 0;");
        Check.fault(AB + "row 2 |5;");
        Check.due("MISSING", -1, Check.of(AB + "row 2?;").answer(0, 1));
    }

    // ---- the fault

    private static void faultOfWords() {
        Check.says("THE FAULT: a word at its first byte");
        Check.fault("|fields");
        Check.fault("|fiel");
        Check.fault("  \n|f");
        Check.fault("field a |name");
        Check.fault("field a named 3 |weigh");
        Check.fault("field a named 3 weight 2 |and");
        Check.fault(A + "|ro");
        Check.fault(A + "|q");
        Check.fault(A + "edit a |i");
        Check.fault(A + "edit a in 0 |an");
    }

    private static void faultOfNumbers() {
        Check.says("THE FAULT: a number at its first byte: one too long, one that is none");
        Check.fault("field a named |31;");
        Check.fault("field a named |30");
        Check.fault("field a named |6");
        Check.fault("field a named 3 weight  |0");
        Check.fault(A + "row |3");
        Check.fault(A + "row |10;");
        Check.fault(A + "edit a in 2-|1");
        Check.fault(A + "edit a in 2-|3");
        Check.fault(A + "edit a in 0-|22");
        Check.fault("|3");
    }

    private static void faultOfNames() {
        Check.says("THE FAULT: a NAME told already or not told, or once more in an EDIT");
        Check.fault("field ab named 3;field |ab named 3;");
        Check.fault("field ab named 3;field a named 3;field b named 3;field abc named 3;");
        Check.fault("field ab named 3;field a named 3;field |ab");
        Check.fault("field ab named 3;group |a;");
        Check.fault("field ab named 3;group |abc;");
        Check.fault("field ab named 3;edit |b in 0;");
        Check.fault("field ab named 3;edit ab in 0 and |x in 0;");
        Check.fault("field ab named 3;edit ab in 0 and |ab in 0;");
        Check.fault("field ab named 3;edit ab in 0 and |ab");
    }

    private static void faultAtThatWord() {
        Check.says("THE FAULT: a field behind another LINE, another LINE ahead of any field, a sixth field,"
                + " a second group, a seventh edit, a 41st row at that word");
        Check.fault(A + "row 0; |field b named 3;");
        Check.fault("  |row 0;");
        Check.fault("\n|edit a in 0;");
        Check.fault("|group a;" + A);
        String five = "field a named 2;field b named 2;field c named 2;field d named 2;field e named 2;";
        Check.fault(five + " |field f named 2;");
        Check.fault(A + "group a; |group a;");
        Check.fault(A + "edit a in 0;".repeat(6) + " |edit a in 0;");
        Check.fault(A + "row 0;".repeat(40) + " |row 0;");
    }

    private static void faultAtTheEnd() {
        Check.says("THE FAULT: the text's length, if more must come (a field, too)");
        Check.fault("|");
        Check.fault(" |");
        Check.fault(" \t\n |");
        String text = "field a named 3 weight 2 ; group a ; edit a in 0 - 1 , 2 ; row ? ;";
        for (int at = text.indexOf(' '); at >= 0; at = text.indexOf(' ', at + 1)) {
            boolean whole = text.charAt(at - 1) == ';';
            Check.fault(text.substring(0, at) + (whole ? "" : "|"));
            Check.fault(text.substring(0, at + 1) + (whole ? "" : "|"));
        }
        Check.fault(" ".repeat(400) + "|");
    }

    // ---- promises 1 to 7

    private static void none() {
        Check.says("NONE = -1");
        Check.due("NONE", -1, EditMender.NONE);
    }

    private static void lastCall() {
        Check.says("An object is used for at most 512 calls after it has been made");
        EditMender x = new EditMender();
        // "field a scaled 5;row", then " 0;" and the rest as blanks: three calls with read().
        x.feed(0x6669656c, 0x64206120, 0x7363616c, 0x65642035, 0x3b726f77);
        x.feed(0x20303b20, BLANKS, BLANKS, BLANKS, BLANKS);
        Check.due("ROWS", 1, x.read());
        for (int call = 4; call < 512; call++) {
            Check.due("call " + call, call == 4 ? 0 : (call - 1) % 5, x.tell(0, 0, call % 5));
        }
        Check.due("call 512", 511 % 5, x.answer(0, 0));
    }

    private static void newObject() {
        Check.says("EditMender(): No FIELDS");
        EditMender x = new EditMender();
        Check.due("FIELDS", 0, x.count(0));
        for (int what = 0; what <= 10; what++) {
            Check.due("count " + what, what == 6 ? -1 : 0, x.count(what));
        }
        Check.dueOf("field", Check.INDEX, () -> x.field(0, 0));
        Check.dueOf("name", Check.INDEX, () -> x.name(0, 0));
        Check.dueOf("box", Check.NO_SUCH, () -> x.box(0, 0));
        Check.dueOf("tried", Check.ARGUMENT, () -> x.tried(0));
        Check.dueOf("changes", Check.INDEX, () -> x.changes(0));
        Check.dueOf("usual", Check.INDEX, () -> x.usual(-1, 0));
        Check.dueOf("share", Check.INDEX, () -> x.share(0, 0));
        Check.dueOf("group", Check.STATE, () -> x.group(0, 0));
        Check.due("end of the empty tape", true, x.end(0));
        Check.due("end behind it", false, x.end(1));
    }

    private static EditMender withBlanks(int bytes) {
        EditMender x = new EditMender();
        for (int size = 0; size < bytes; size += 20) {
            x.feed(BLANKS, BLANKS, BLANKS, BLANKS, BLANKS);
        }
        x.end(bytes);
        return x;
    }

    private static void feed() {
        Check.says("feed: NONE, and none come, if it would have more than 400");
        Check.due("from 379", 399, withBlanks(379).feed(0, 0, 0, 0, 0));
        Check.due("from 380", 400, withBlanks(380).feed(0, 0, 0, 0, 0));
        for (int bytes : new int[] {381, 399, 400}) {
            EditMender x = withBlanks(bytes);
            Check.due("from " + bytes, -1, x.feed(0, 0, 0, 0, 0));
            Check.due("none came", false, x.end(bytes + 1));
            Check.due("none is gone", true, x.end(bytes));
            Check.dueOf("blanks alone", Check.ARGUMENT, x::read);
            Check.due("more must come", bytes, x.fault());
        }
    }

    private static void feedHighestFirst() {
        Check.says("feed: twenty bytes, of each number the highest first");
        for (int at = 0; at < 20; at++) {
            int[] n = {BLANKS, BLANKS, BLANKS, BLANKS, BLANKS};
            n[at / 4] |= 0xff << 24 - at % 4 * 8;
            EditMender x = new EditMender();
            Check.due("bytes", 20, x.feed(n[0], n[1], n[2], n[3], n[4]));
            Check.dueOf("a byte that goes on with no text", Check.ARGUMENT, x::read);
            Check.due("it is at", at, x.fault());
        }
    }

    private static void end() {
        Check.says("end: The TAPE has its first n bytes alone: true");
        EditMender x = withBlanks(40);
        Check.due("all of it", true, x.end(40));
        Check.due("one less", true, x.end(39));
        Check.due("the 40th is gone", false, x.end(40));
        Check.due("next bytes come behind", 59, x.feed(0, 0, 0, 0, 0));
        Check.due("none", true, x.end(0));
        Check.due("nothing is left", false, x.end(1));
        Check.due("none once more", true, x.end(0));
        Check.due("next bytes come first", 20, x.feed(BLANKS, 0, 0, 0, 0));
        Check.dueOf("read", Check.ARGUMENT, x::read);
        Check.due("the first bytes are the later ones", 4, x.fault());
    }

    private static void endBehind() {
        Check.says("end: false, and nothing happens, if it has fewer, or n is below 0");
        EditMender x = withBlanks(40);
        for (int n : new int[] {41, 60, 400, 401, -1, -40, Integer.MIN_VALUE, Integer.MAX_VALUE}) {
            Check.due("end " + n, false, x.end(n));
        }
        Check.due("bytes", 60, x.feed(BLANKS, BLANKS, BLANKS, BLANKS, BLANKS));
    }

    private static void readUsesUp() {
        Check.says("read: Uses the TAPE up");
        EditMender x = Check.of(A);
        Check.due("nothing is left", false, x.end(1));
        Check.dueOf("no text", Check.ARGUMENT, x::read);
        Check.feed(x, Check.bytes("row 0;"));
        Check.dueOf("a wrong text", Check.ARGUMENT, x::read);
        Check.due("nothing is left", false, x.end(1));
        Check.due("bytes come first", 20, x.feed(0, 0, 0, 0, 0));
    }

    private static void readInPlace() {
        Check.says("read: it is THE TEXT, in place of the one before");
        EditMender x = Check.of("field a named 5 weight 9;field bb scaled 4;group bb;edit a in 0;edit bb in 1;row 4 3;row 0 1;");
        Check.due("boxes of the one before", 2, x.boxes());
        Check.due("rows", 0, Check.read(x, "field c scaled 2;"));
        int[] want = {1, 0, 0, 0, 0, 0, -1, 2, 0, 1, 0};
        for (int what = 0; what < want.length; what++) {
            Check.due("count " + what, want[what], x.count(what));
        }
        Check.due("boxes", 0, x.boxes());
        Check.dueOf("box", Check.NO_SUCH, () -> x.box(0, 0));
        Check.due("passing", 2, x.passing());
        Check.due("letter", (int) 'c', x.name(0, 0));
        Check.due("letters", -1, x.name(0, 1));
        Check.due("scaled", 1, x.field(0, 2));
        Check.dueOf("fields", Check.INDEX, () -> x.field(1, 0));
        Check.dueOf("edits", Check.INDEX, () -> x.edit(0, 0));
        Check.dueOf("rows", Check.INDEX, () -> x.answer(0, 0));
    }

    private static void readFewerBoxes() {
        Check.says("read: in place of the one before (its BOXES, too)");
        EditMender x = Check.of(AB + "edit a in 0;edit b in 3;row 0 3;");
        Check.due("in the second BOX", 1, x.within(0, 1));
        Check.due("of its own", 4, x.cover(0, true));
        Check.read(x, AB + "edit a in 0;row 0 3;row 1 3;");
        Check.due("BOXES", 1, x.boxes());
        Check.due("of its own", 5, x.cover(0, true));
        Check.due("in the BOX", 0, x.within(0, 0));
        Check.due("in no second one", -1, x.within(0, 1));
        Check.due("in none", -1, x.within(1, 0));
        Check.due("its FIELD", 0, x.blame(0));
        Check.due("none", -1, x.blame(1));
        Check.due("FIELDS that ENTER it", 1, x.box(0, -1));
    }

    private static void readNothingUndone() {
        Check.says("read: nothing can be undone");
        EditMender x = Check.of(A + "row 1;");
        x.tell(0, 0, 2);
        x.copy(0);
        Check.due("acts", 2, x.count(5));
        Check.read(x, A + "row 0;");
        Check.due("acts", 0, x.count(5));
        Check.due("undo", -1, x.undo());
        Check.due("rows", "0", Check.allWritten(x));
    }

    private static void readHowMany() {
        Check.says("read: how many ROWS");
        EditMender x = new EditMender();
        Check.due("none", 0, Check.read(x, A));
        Check.due("one", 1, Check.read(x, A + "row 0;"));
        Check.due("all", 40, Check.read(x, A + "row0;".repeat(40)));
        Check.due("none", 0, Check.read(x, A + "edit a in 0;"));
    }

    private static void readWrong() {
        Check.says("read: IllegalArgumentException: the text is wrong; it changes nothing but the TAPE and fault()");
        EditMender x = Check.of(AB + "group b;edit a in 0;row 1 4;row 0?;");
        x.tell(1, 1, 3);
        x.write(1);
        String[] wrongs = {"", " ", "row 0 0;", "field z named 9;", "field z named 2;group z;edit z in 0;row 1;row 1;row 2;",
            "field zz scaled 2;field z named 2;group zz;edit z in 0-1;row 1 1;row 0 0;row 0 0"};
        for (String wrong : wrongs) {
            Check.due("'" + wrong + "'", Check.ARGUMENT, Check.read(x, wrong));
            Check.due("ROWS", "1:4 0:3 ", answers(x));
            Check.due("acts", 1, x.count(5));
            Check.due("bytes written", 2, x.count(8));
            Check.due("boxes", 1, x.boxes());
            Check.due("passing", 10, x.passing());
            Check.due("the field of GROUPS", 1, x.count(6));
            Check.due("the NAME", (int) 'a', x.name(0, 0));
            Check.due("the set of EDIT 0", 1, x.edit(0, 0));
        }
        Check.due("undo", 0, x.undo());
        Check.due("ROWS", "1:4 0:-1 ", answers(x));
    }

    private static String answers(EditMender x) {
        StringBuilder text = new StringBuilder();
        for (int row = 0; row < x.count(2); row++) {
            text.append(x.answer(row, 0)).append(":").append(x.answer(row, 1)).append(" ");
        }
        return text.toString();
    }

    private static void fault() {
        Check.says("fault: THE FAULT of the latest read(); NONE without one, and ahead of any");
        EditMender x = new EditMender();
        Check.due("ahead of any", -1, x.fault());
        Check.feed(x, Check.bytes(A + "group b;"));
        Check.due("ahead of read()", -1, x.fault());
        Check.dueOf("read", Check.ARGUMENT, x::read);
        Check.due("the fault", 22, x.fault());
        x.mendAll(0);
        Check.due("it stays over other calls", 22, x.fault());
        Check.feed(x, Check.bytes(A));
        Check.due("and ahead of the next read()", 22, x.fault());
        x.read();
        Check.due("without one", -1, x.fault());
        Check.dueOf("read of nothing", Check.ARGUMENT, x::read);
        Check.due("the first byte", 0, x.fault());
    }

    private static void field() {
        Check.says("field: what 0 VALUES, 1 WEIGHT, 2 1 if scaled, else 0, 3 1 if it is that of GROUPS, else 0");
        EditMender x = Check.of("field a named 2 weight 9;field b scaled 5;field c named 4;group c;");
        int[][] want = {{2, 9, 0, 0}, {5, 1, 1, 0}, {4, 1, 0, 1}};
        for (int field = 0; field < 3; field++) {
            for (int what = 0; what < 4; what++) {
                Check.due("field " + field + " " + what, want[field][what], x.field(field, what));
            }
        }
        EditMender y = Check.of(AB);
        Check.due("no GROUPS", 0, y.field(0, 3) + y.field(1, 3));
    }

    private static void fieldRefused() {
        Check.says("field: IndexOutOfBoundsException, NoSuchElementException: another what");
        EditMender x = Check.of(AB);
        for (int what : new int[] {-1, 4, Integer.MIN_VALUE, Integer.MAX_VALUE}) {
            Check.dueOf("what " + what, Check.NO_SUCH, () -> x.field(1, what));
            Check.dueOf("no FIELD, what " + what, Check.INDEX, () -> x.field(2, what));
        }
        for (int field : new int[] {-1, 2, 5, Integer.MIN_VALUE, Integer.MAX_VALUE}) {
            Check.dueOf("FIELD " + field, Check.INDEX, () -> x.field(field, 0));
        }
    }

    private static void name() {
        Check.says("name: Letter k of a FIELD's NAME; NONE behind it");
        EditMender x = Check.of("field abcdef named 2;field z named 2;field ab named 2;");
        String[] names = {"abcdef", "z", "ab"};
        for (int field = 0; field < 3; field++) {
            for (int k = 0; k < 8; k++) {
                int want = k < names[field].length() ? names[field].charAt(k) : -1;
                Check.due("letter " + field + " " + k, want, x.name(field, k));
            }
            Check.due("letter -1", -1, x.name(field, -1));
            for (int k : Check.far()) {
                Check.due("letter " + k, -1, x.name(field, k));
            }
        }
    }

    private static void nameRefused() {
        Check.says("name: IndexOutOfBoundsException: there is no such FIELD");
        EditMender x = Check.of(AB);
        for (int field : new int[] {-1, 2, 5, Integer.MIN_VALUE, Integer.MAX_VALUE}) {
            Check.dueOf("FIELD " + field, Check.INDEX, () -> x.name(field, 0));
            Check.dueOf("FIELD " + field + " behind its NAME", Check.INDEX, () -> x.name(field, 9));
        }
    }
}
