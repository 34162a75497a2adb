import java.util.Arrays;
import java.util.NoSuchElementException;

/** Forms whose answers break edits, mended by changing the fewest; see README.md. */
public final class EditMender {
    public static final int NONE = -1;

    private static final int MOST_FIELDS = 5;
    private static final int MOST_VALUES = 5;
    private static final int MOST_EDITS = 6;
    private static final int MOST_ROWS = 40;
    private static final int MOST_LETTERS = 6;
    private static final int FIRST_DONOR = 0;
    private static final int MOST_DONORS = 1;
    private static final int LEAST_VALUES = 2;

    private final Tape tape;
    private final Plan plan;
    private final Plan draft;
    private final Reader reader;
    private final Logic logic;
    private final Boxes boxList;
    private final Rows rows;
    private final Donors donors;
    private final Kinds kinds;
    private final int[] mendedRows;
    private final byte[] written;
    private int writtenSize;
    private int textFault;

    public EditMender() {
        tape = new Tape();
        plan = new Plan();
        draft = new Plan();
        reader = new Reader(tape, draft);
        logic = new Logic(plan);
        boxList = new Boxes(plan, logic);
        rows = new Rows();
        donors = new Donors(plan, logic, rows);
        kinds = new Kinds(plan, logic, rows);
        mendedRows = new int[MOST_ROWS];
        written = new byte[MOST_FIELDS];
        writtenSize = 0;
        textFault = NONE;
    }

    // ---- the text

    public int feed(int a, int b, int c, int d, int e) {
        if (!tape.hasRoom(20)) {
            return NONE;
        }
        tape.put(a);
        tape.put(b);
        tape.put(c);
        tape.put(d);
        tape.put(e);
        return tape.size;
    }

    public boolean end(int n) {
        if (n < 0 || n > tape.size) {
            return false;
        }
        tape.size = n;
        return true;
    }

    public int read() throws IllegalArgumentException {
        boolean right = reader.readText();
        int place = reader.place();
        tape.size = 0;
        if (!right) {
            textFault = place;
            throw new IllegalArgumentException();
        }
        textFault = NONE;
        plan.copyFrom(draft);
        logic.prepare();
        boxList.forget();
        rows.start(plan);
        return rows.count;
    }

    public int fault() {
        return textFault;
    }

    // ---- fields, edits, boxes

    public int field(int field, int what) throws IndexOutOfBoundsException, NoSuchElementException {
        needField(field);
        switch (what) {
            case 0:
                return plan.sizes[field];
            case 1:
                return plan.weights[field];
            case 2:
                return plan.scaled[field];
            case 3:
                return plan.groupField == field ? 1 : 0;
            default:
                throw new NoSuchElementException();
        }
    }

    public int name(int field, int k) throws IndexOutOfBoundsException {
        needField(field);
        return plan.letter(field, k);
    }

    public int edit(int edit, int field) throws IndexOutOfBoundsException {
        needEdit(edit);
        needField(field);
        return plan.editSet(edit, field);
    }

    public int from(int k) throws NoSuchElementException {
        needBox(k);
        return boxList.fewestEdits(k);
    }

    public int cover(int k, boolean own) throws NoSuchElementException {
        needBox(k);
        return own ? boxList.ownForms(k) : boxList.allForms(k);
    }

    public boolean idle(int edit) throws IndexOutOfBoundsException {
        needEdit(edit);
        return logic.isIdle(edit);
    }

    public int boxes() {
        return boxList.size();
    }

    public int box(int k, int field) throws NoSuchElementException, IndexOutOfBoundsException {
        needBox(k);
        if (field == NONE) {
            return boxList.entering(k);
        }
        needField(field);
        return boxList.setOf(k, field);
    }

    public int passing() {
        return logic.passingForms;
    }

    public int tried(int form) throws IllegalArgumentException {
        int code = Code.ofDigits(form, plan.fieldCount);
        if (code == NONE || !plan.holdsForm(code)) {
            throw new IllegalArgumentException();
        }
        return logic.editsFailed(code);
    }

    // ---- rows

    public int answer(int row, int field) throws IndexOutOfBoundsException {
        needRow(row);
        needField(field);
        return Code.answerAt(rows.codeOf(row), field);
    }

    public int tell(int row, int field, int value) throws IndexOutOfBoundsException, IllegalArgumentException {
        needRow(row);
        needField(field);
        if (value != NONE) {
            needValue(field, value);
        }
        int code = rows.codeOf(row);
        rows.remember();
        rows.codes[row] = Code.withAnswer(code, field, value);
        return Code.answerAt(code, field);
    }

    public int copy(int row) throws IndexOutOfBoundsException, IllegalStateException {
        needRow(row);
        if (rows.count >= MOST_ROWS) {
            throw new IllegalStateException();
        }
        rows.remember();
        rows.codes[rows.count] = rows.codeOf(row);
        rows.count++;
        return rows.count - 1;
    }

    public int drop() throws IllegalStateException {
        if (rows.count == 0) {
            throw new IllegalStateException();
        }
        rows.remember();
        rows.count--;
        return rows.count;
    }

    public int fails(int row) throws IndexOutOfBoundsException {
        needRow(row);
        return logic.editsFailed(rows.codeOf(row));
    }

    public int within(int row, int k) throws IndexOutOfBoundsException, IllegalStateException {
        needRow(row);
        needAnswers(row, 0);
        return boxList.holding(rows.codeOf(row), k);
    }

    public int may(int row, int field) throws IndexOutOfBoundsException, IllegalStateException {
        needRow(row);
        needField(field);
        needAnswers(row, 1 << field);
        return logic.valuesIn(rows.codeOf(row), 1 << field, field);
    }

    public int likely(int row, int field) throws IndexOutOfBoundsException, IllegalStateException {
        needRow(row);
        needField(field);
        needAnswers(row, 1 << field);
        return kinds.likeliest(field, logic.valuesIn(rows.codeOf(row), 1 << field, field));
    }

    public int blame(int row) throws IndexOutOfBoundsException, IllegalStateException {
        needRow(row);
        needAnswers(row, 0);
        return boxList.blamed(rows.codeOf(row));
    }

    public boolean mends(int row, int set) throws IndexOutOfBoundsException, IllegalArgumentException {
        needRow(row);
        needSet(set);
        return logic.canMend(rows.codeOf(row), set);
    }

    public int ways(int row, int set) throws IndexOutOfBoundsException, IllegalArgumentException {
        needRow(row);
        needSet(set);
        return logic.countWays(rows.codeOf(row), set);
    }

    public int least(int row, int what) throws IndexOutOfBoundsException, NoSuchElementException {
        needRow(row);
        int code = rows.codeOf(row);
        switch (what) {
            case 0:
                return logic.leastSet(code);
            case 1:
                return logic.leastWeight(code);
            case 2:
                return logic.countLeast(code);
            default:
                throw new NoSuchElementException();
        }
    }

    public int leastOf(int row, int k) throws IndexOutOfBoundsException {
        needRow(row);
        return logic.leastAt(rows.codeOf(row), k);
    }

    public int values(int row, int set, int field) throws IndexOutOfBoundsException, IllegalArgumentException {
        needRow(row);
        needField(field);
        needSet(set);
        return logic.valuesIn(rows.codeOf(row), set, field);
    }

    public int forced(int row) throws IndexOutOfBoundsException {
        needRow(row);
        return logic.forcedIn(rows.codeOf(row));
    }

    public int urgent(int k) {
        return kinds.urgentAt(k);
    }

    // ---- donors, mending

    public int donor(int row, int k, boolean far) throws IndexOutOfBoundsException {
        needRow(row);
        donors.gather(row);
        return far ? donors.farAt(k) : donors.rowAt(k);
    }

    public int would(int row, int way) throws IndexOutOfBoundsException, IllegalArgumentException {
        needRow(row);
        needWay(way);
        int mended = donors.mended(row, way);
        return mended == NONE ? NONE : Code.toDigits(mended, plan.fieldCount);
    }

    public int mend(int row, int way)
            throws IndexOutOfBoundsException, IllegalArgumentException, IllegalStateException {
        needRow(row);
        needWay(way);
        int code = rows.codeOf(row);
        int mended = logic.isRight(code) ? NONE : donors.mended(row, way);
        if (mended == NONE) {
            throw new IllegalStateException();
        }
        rows.remember();
        rows.codes[row] = mended;
        return Integer.bitCount(Code.unlikeFields(code, mended));
    }

    public int mendAll(int way) throws IllegalArgumentException {
        needWay(way);
        int mendedCount = mendAside(way);
        rows.remember();
        System.arraycopy(mendedRows, 0, rows.codes, 0, rows.count);
        return mendedCount;
    }

    public int trial(int way, int what) throws IllegalArgumentException, NoSuchElementException {
        needWay(way);
        if (what < 0 || what > 2) {
            throw new NoSuchElementException();
        }
        int mendedCount = mendAside(way);
        if (what == 0) {
            return kinds.countRight() + mendedCount;
        }
        int sum = 0;
        for (int row = 0; row < rows.count; row++) {
            int changed = Code.unlikeFields(rows.codes[row], mendedRows[row]);
            sum += what == 1 ? Integer.bitCount(changed) : plan.weightOf(changed);
        }
        return sum;
    }

    public int undo() {
        return rows.takeBack() ? rows.kept : NONE;
    }

    // ---- groups of rows

    public int pattern(int k, int what) throws NoSuchElementException {
        int first = kinds.patternFirst(k);
        if (first == NONE) {
            throw new NoSuchElementException();
        }
        int code = rows.codeOf(first);
        switch (what) {
            case 0:
                return logic.editsFailed(code);
            case 1:
                return Code.missingIn(code, plan.fieldCount);
            case 2:
                return kinds.patternRows(first);
            case 3:
                return first;
            default:
                throw new NoSuchElementException();
        }
    }

    public int patterns() {
        return kinds.countPatterns();
    }

    public int alike(int row, boolean first) throws IndexOutOfBoundsException {
        needRow(row);
        return first ? kinds.firstAlike(row) : kinds.countAlike(row);
    }

    public int near(int row, int other) throws IndexOutOfBoundsException {
        needRow(row);
        needRow(other);
        return plan.farApart(rows.codeOf(row), rows.codeOf(other), 0);
    }

    public int bunch(int row, int n) throws IndexOutOfBoundsException {
        if (row != NONE) {
            needRow(row);
        }
        int found = kinds.gatherBunches(n);
        return row == NONE ? found : kinds.bunchOf(row);
    }

    public int changes(int field) throws IndexOutOfBoundsException {
        needField(field);
        return kinds.countChanges(field);
    }

    public int unlike() {
        return kinds.countUnlike();
    }

    public int group(int value, int what)
            throws IllegalStateException, IllegalArgumentException, NoSuchElementException {
        needGroup(value);
        switch (what) {
            case 0:
                return kinds.countInGroup(value, false);
            case 1:
                return kinds.countInGroup(value, true);
            default:
                throw new NoSuchElementException();
        }
    }

    public int usual(int group, int field)
            throws IndexOutOfBoundsException, IllegalStateException, IllegalArgumentException {
        needField(field);
        if (group != NONE) {
            needGroup(group);
        }
        return kinds.usualIn(group, field);
    }

    public int share(int field, int value) throws IndexOutOfBoundsException, IllegalArgumentException {
        needField(field);
        needValue(field, value);
        return kinds.shareOf(field, value);
    }

    public int write(int row) throws IndexOutOfBoundsException {
        needRow(row);
        int code = rows.codeOf(row);
        for (int field = 0; field < plan.fieldCount; field++) {
            int value = Code.answerAt(code, field);
            written[field] = (byte) (value == NONE ? '?' : '0' + value);
        }
        writtenSize = plan.fieldCount;
        return writtenSize;
    }

    public int octet(int k) {
        return k < 0 || k >= writtenSize ? NONE : written[k];
    }

    public int count(int what) {
        switch (what) {
            case 0:
                return plan.fieldCount;
            case 1:
                return plan.editCount;
            case 2:
                return rows.count;
            case 3:
                return kinds.countRight();
            case 4:
                return kinds.countMissing();
            case 5:
                return rows.kept;
            case 6:
                return plan.groupField;
            case 7:
                return plan.allForms();
            case 8:
                return writtenSize;
            case 9:
                return plan.weightOf(plan.allFields());
            case 10:
                return kinds.countMendable();
            default:
                return NONE;
        }
    }

    // ---- what the face asks of its numbers

    private void needField(int field) {
        if (field < 0 || field >= plan.fieldCount) {
            throw new IndexOutOfBoundsException();
        }
    }

    private void needEdit(int edit) {
        if (edit < 0 || edit >= plan.editCount) {
            throw new IndexOutOfBoundsException();
        }
    }

    private void needRow(int row) {
        if (row < 0 || row >= rows.count) {
            throw new IndexOutOfBoundsException();
        }
    }

    private void needBox(int k) {
        if (k < 0 || k >= boxList.size()) {
            throw new NoSuchElementException();
        }
    }

    private void needValue(int field, int value) {
        if (value < 0 || value >= plan.sizes[field]) {
            throw new IllegalArgumentException();
        }
    }

    private void needSet(int set) {
        if (set < 0 || set > plan.allFields()) {
            throw new IllegalArgumentException();
        }
    }

    private void needWay(int way) {
        if (way < FIRST_DONOR || way > LEAST_VALUES) {
            throw new IllegalArgumentException();
        }
    }

    private void needGroup(int value) {
        if (plan.groupField == NONE) {
            throw new IllegalStateException();
        }
        needValue(plan.groupField, value);
    }

    /** Refuses a row that lacks an answer in a field outside of those that may be missing. */
    private void needAnswers(int row, int mayMiss) {
        if ((Code.missingIn(rows.codeOf(row), plan.fieldCount) & ~mayMiss) != 0) {
            throw new IllegalStateException();
        }
    }

    /** All rows as a way would leave them, kept aside: each must be mended by the rows as they are now. */
    private int mendAside(int way) {
        int mendedCount = 0;
        for (int row = 0; row < rows.count; row++) {
            int code = rows.codes[row];
            int mended = donors.mended(row, way);
            if (mended != NONE && !logic.isRight(code)) {
                mendedCount++;
            }
            mendedRows[row] = mended == NONE ? code : mended;
        }
        return mendedCount;
    }

    /** The bytes fed and not yet read. */
    private static final class Tape {
        static final int MOST_BYTES = 400;

        final byte[] bytes = new byte[MOST_BYTES];
        int size;

        boolean hasRoom(int more) {
            return size + more <= MOST_BYTES;
        }

        void put(int number) {
            for (int shift = 24; shift >= 0 && size < MOST_BYTES; shift -= 8) {
                bytes[size] = (byte) (number >> shift);
                size++;
            }
        }

        /** NONE behind the end, so that a reader needs no test of its own. */
        int at(int k) {
            return k < 0 || k >= size ? NONE : bytes[k] & 255;
        }
    }

    /** What a text tells. */
    private static final class Plan {
        int fieldCount;
        final int[] sizes = new int[MOST_FIELDS];
        final int[] weights = new int[MOST_FIELDS];
        /** 1 for a scaled field, 0 for a named one. */
        final int[] scaled = new int[MOST_FIELDS];
        final byte[] letters = new byte[MOST_FIELDS * MOST_LETTERS];
        final int[] letterCounts = new int[MOST_FIELDS];
        int groupField = NONE;
        int editCount;
        final int[] editSets = new int[MOST_EDITS * MOST_FIELDS];
        int rowCount;
        final int[] rowCodes = new int[MOST_ROWS];

        void clear() {
            fieldCount = 0;
            groupField = NONE;
            editCount = 0;
            rowCount = 0;
        }

        void copyFrom(Plan other) {
            fieldCount = other.fieldCount;
            System.arraycopy(other.sizes, 0, sizes, 0, MOST_FIELDS);
            System.arraycopy(other.weights, 0, weights, 0, MOST_FIELDS);
            System.arraycopy(other.scaled, 0, scaled, 0, MOST_FIELDS);
            System.arraycopy(other.letters, 0, letters, 0, MOST_FIELDS * MOST_LETTERS);
            System.arraycopy(other.letterCounts, 0, letterCounts, 0, MOST_FIELDS);
            groupField = other.groupField;
            editCount = other.editCount;
            System.arraycopy(other.editSets, 0, editSets, 0, MOST_EDITS * MOST_FIELDS);
            rowCount = other.rowCount;
            System.arraycopy(other.rowCodes, 0, rowCodes, 0, MOST_ROWS);
        }

        int letter(int field, int k) {
            return k < 0 || k >= letterCounts[field] ? NONE : letters[field * MOST_LETTERS + k];
        }

        int allFields() {
            return (1 << fieldCount) - 1;
        }

        int allEdits() {
            return (1 << editCount) - 1;
        }

        int allValues(int field) {
            return (1 << sizes[field]) - 1;
        }

        int editSet(int edit, int field) {
            return editSets[edit * MOST_FIELDS + field];
        }

        int allForms() {
            int forms = fieldCount == 0 ? 0 : 1;
            for (int field = 0; field < fieldCount; field++) {
                forms *= sizes[field];
            }
            return forms;
        }

        int weightOf(int set) {
            int sum = 0;
            for (int field = 0; field < fieldCount; field++) {
                if (((set >> field) & 1) != 0) {
                    sum += weights[field];
                }
            }
            return sum;
        }

        boolean holdsForm(int code) {
            for (int field = 0; field < fieldCount; field++) {
                int value = Code.answerAt(code, field);
                if (value < 0 || value >= sizes[field]) {
                    return false;
                }
            }
            return fieldCount > 0;
        }

        /** How far two rows are in all fields but those of a set. */
        int farApart(int code, int other, int without) {
            int sum = 0;
            for (int field = 0; field < fieldCount; field++) {
                if (((without >> field) & 1) == 0) {
                    sum += weights[field]
                            * apart(field, Code.answerAt(code, field), Code.answerAt(other, field));
                }
            }
            return sum;
        }

        private int apart(int field, int value, int other) {
            if (value == other) {
                return 0;
            }
            if (scaled[field] == 0) {
                return 1;
            }
            return value == NONE || other == NONE ? sizes[field] : Math.abs(value - other);
        }
    }

    /** Reads the tape into a plan; the plan is of no use where the text is wrong. */
    private static final class Reader {
        private final Tape tape;
        private final Plan plan;
        private int start;
        private int stop;
        private boolean fieldsEnded;

        Reader(Tape tape, Plan plan) {
            this.tape = tape;
            this.plan = plan;
        }

        /** Where reading stands: the first byte of the word, number or sign that was not taken. */
        int place() {
            return start;
        }

        boolean readText() {
            plan.clear();
            fieldsEnded = false;
            stop = 0;
            next();
            for (int lines = 0; lines < Tape.MOST_BYTES && start < tape.size; lines++) {
                if (!readLine() || !takes(';')) {
                    return false;
                }
            }
            return plan.fieldCount > 0;
        }

        private boolean readLine() {
            if (isWord("field")) {
                return !fieldsEnded && plan.fieldCount < MOST_FIELDS && readField();
            }
            if (plan.fieldCount == 0) {
                return false;
            }
            fieldsEnded = true;
            if (isWord("group")) {
                return plan.groupField == NONE && readGroup();
            }
            if (isWord("edit")) {
                return plan.editCount < MOST_EDITS && readEdit();
            }
            return isWord("row") && plan.rowCount < MOST_ROWS && readRow();
        }

        private boolean readField() {
            int field = plan.fieldCount;
            next();
            if (!isName() || toldField() != NONE) {
                return false;
            }
            keepName(field);
            next();
            if (!isWord("named") && !isWord("scaled")) {
                return false;
            }
            plan.scaled[field] = isWord("scaled") ? 1 : 0;
            next();
            int size = takeNumber(2, MOST_VALUES);
            if (size == NONE) {
                return false;
            }
            int weight = 1;
            if (isWord("weight")) {
                next();
                weight = takeNumber(1, 9);
            }
            plan.sizes[field] = size;
            plan.weights[field] = weight;
            plan.fieldCount++;
            return weight != NONE;
        }

        private void keepName(int field) {
            int length = stop - start;
            plan.letterCounts[field] = length;
            for (int k = 0; k < length && k < MOST_LETTERS; k++) {
                plan.letters[field * MOST_LETTERS + k] = (byte) tape.at(start + k);
            }
        }

        private boolean readGroup() {
            next();
            int field = toldField();
            if (field == NONE) {
                return false;
            }
            plan.groupField = field;
            next();
            return true;
        }

        private boolean readEdit() {
            int first = plan.editCount * MOST_FIELDS;
            for (int field = 0; field < plan.fieldCount; field++) {
                plan.editSets[first + field] = plan.allValues(field);
            }
            plan.editCount++;
            int tested = 0;
            for (int tests = 0; tests <= MOST_FIELDS; tests++) {
                next();
                int field = toldField();
                if (field == NONE || ((tested >> field) & 1) != 0) {
                    return false;
                }
                tested |= 1 << field;
                next();
                if (!isWord("in")) {
                    return false;
                }
                plan.editSets[first + field] = readSpans(field);
                if (plan.editSets[first + field] == 0) {
                    return false;
                }
                if (!isWord("and")) {
                    return true;
                }
            }
            return false;
        }

        /** The values of all spans behind this word or comma; 0 where one is wrong. */
        private int readSpans(int field) {
            int highest = plan.sizes[field] - 1;
            int set = 0;
            for (int spans = 0; spans < Tape.MOST_BYTES; spans++) {
                next();
                int low = takeNumber(0, highest);
                if (low == NONE) {
                    return 0;
                }
                int high = takes('-') ? takeNumber(low, highest) : low;
                if (high == NONE) {
                    return 0;
                }
                set |= (2 << high) - (1 << low);
                if (!isSign(',')) {
                    return set;
                }
            }
            return 0;
        }

        private boolean readRow() {
            int code = 0;
            next();
            for (int field = 0; field < plan.fieldCount; field++) {
                if (!takes('?')) {
                    int value = takeNumber(0, plan.sizes[field] - 1);
                    if (value == NONE) {
                        return false;
                    }
                    code = Code.withAnswer(code, field, value);
                }
            }
            plan.rowCodes[plan.rowCount] = code;
            plan.rowCount++;
            return true;
        }

        /** Goes to the word, number or sign behind this one. */
        private void next() {
            start = stop;
            while (start < tape.size && isBlank(tape.at(start))) {
                start++;
            }
            stop = start;
            if (isLetter(tape.at(start))) {
                while (stop < tape.size && isLetter(tape.at(stop))) {
                    stop++;
                }
            } else if (isDigit(tape.at(start))) {
                while (stop < tape.size && isDigit(tape.at(stop))) {
                    stop++;
                }
            } else if (start < tape.size) {
                stop++;
            }
        }

        private boolean takes(char sign) {
            if (!isSign(sign)) {
                return false;
            }
            next();
            return true;
        }

        private int takeNumber(int low, int high) {
            int value = tape.at(start) - '0';
            if (stop - start != 1 || value < low || value > high) {
                return NONE;
            }
            next();
            return value;
        }

        private boolean isSign(char sign) {
            return tape.at(start) == sign;
        }

        private boolean isWord(String word) {
            int length = word.length();
            if (stop - start != length) {
                return false;
            }
            for (int k = 0; k < length; k++) {
                if (tape.at(start + k) != word.charAt(k)) {
                    return false;
                }
            }
            return true;
        }

        /** The text's own words name no field. */
        private boolean isName() {
            boolean own = isWord("field") || isWord("named") || isWord("scaled") || isWord("weight")
                    || isWord("group") || isWord("edit") || isWord("and") || isWord("in") || isWord("row");
            return isLetter(tape.at(start)) && stop - start <= MOST_LETTERS && !own;
        }

        private int toldField() {
            for (int field = 0; field < plan.fieldCount; field++) {
                if (isNameOf(field)) {
                    return field;
                }
            }
            return NONE;
        }

        private boolean isNameOf(int field) {
            int length = plan.letterCounts[field];
            if (stop - start != length) {
                return false;
            }
            for (int k = 0; k < length; k++) {
                if (tape.at(start + k) != plan.letter(field, k)) {
                    return false;
                }
            }
            return true;
        }

        private static boolean isBlank(int octet) {
            return octet == 9 || octet == 10 || octet == 32;
        }

        private static boolean isLetter(int octet) {
            return octet >= 'a' && octet <= 'z';
        }

        private static boolean isDigit(int octet) {
            return octet >= '0' && octet <= '9';
        }
    }

    /** The answers of a row in one number: three bits a field, 0 where the answer is missing, else 1 more. */
    private static final class Code {
        private static final int WIDTH = 3;
        private static final int PLACE = 7;

        static int answerAt(int code, int field) {
            return ((code >> (WIDTH * field)) & PLACE) - 1;
        }

        static int withAnswer(int code, int field, int value) {
            int shift = WIDTH * field;
            return (code & ~(PLACE << shift)) | ((value + 1) << shift);
        }

        static int missingIn(int code, int fieldCount) {
            int set = 0;
            for (int field = 0; field < fieldCount; field++) {
                if (answerAt(code, field) == NONE) {
                    set |= 1 << field;
                }
            }
            return set;
        }

        static int unlikeFields(int code, int other) {
            int set = 0;
            for (int field = 0; field < MOST_FIELDS; field++) {
                if (answerAt(code, field) != answerAt(other, field)) {
                    set |= 1 << field;
                }
            }
            return set;
        }

        /** The places of a set of fields alone. */
        static int part(int code, int set) {
            int places = 0;
            for (int field = 0; field < MOST_FIELDS; field++) {
                if (((set >> field) & 1) != 0) {
                    places |= PLACE << (WIDTH * field);
                }
            }
            return code & places;
        }

        /** One row with another one's answers put into a set of fields. */
        static int blend(int code, int other, int set) {
            return part(code, ~set) | part(other, set);
        }

        static int toDigits(int code, int fieldCount) {
            int digits = 0;
            for (int field = 0; field < fieldCount; field++) {
                digits = digits * 10 + answerAt(code, field);
            }
            return digits;
        }

        /** NONE where there are too many digits, or one that no field can have. */
        static int ofDigits(int digits, int fieldCount) {
            int rest = digits;
            int code = 0;
            for (int field = fieldCount - 1; field >= 0; field--) {
                int digit = rest % 10;
                if (digit < 0 || digit >= MOST_VALUES) {
                    return NONE;
                }
                code = withAnswer(code, field, digit);
                rest /= 10;
            }
            return rest == 0 ? code : NONE;
        }
    }

    /**
     * Families: sets of sets of edits. A long's bit x says whether the set of edits x is in the family,
     * so that one number follows all forms of a box at once.
     */
    private static final class Family {
        /** The set of all edits alone. */
        static final long TOP = 1L << 63;
        /** The set of no edit alone. */
        static final long BOTTOM = 1L;
        /** All sets: of a family closed upward, the only one with the set of no edit. */
        static final long ALL = -1L;

        /** For each edit the sets that have it. */
        private static final long[] WITH = {
            0xAAAAAAAAAAAAAAAAL, 0xCCCCCCCCCCCCCCCCL, 0xF0F0F0F0F0F0F0F0L,
            0xFF00FF00FF00FF00L, 0xFFFF0000FFFF0000L, 0xFFFFFFFF00000000L,
        };

        /** Of a family closed upward: all that hold what some set in it has in common with the edits told. */
        static long met(long family, int edits) {
            long result = family;
            for (int edit = 0; edit < MOST_EDITS; edit++) {
                if (((edits >> edit) & 1) == 0) {
                    result &= WITH[edit];
                    result |= result >>> (1 << edit);
                }
            }
            return result;
        }

        /** All sets that have in common with the edits told a set of the family. */
        static long ahead(long family, int edits) {
            long result = family;
            for (int edit = 0; edit < MOST_EDITS; edit++) {
                if (((edits >> edit) & 1) == 0) {
                    result &= ~WITH[edit];
                    result |= result << (1 << edit);
                }
            }
            return result;
        }

        static boolean has(long family, int edits) {
            return ((family >>> edits) & 1) != 0;
        }
    }

    /** Which forms and rows pass, and by which sets of fields a row can be mended. */
    private static final class Logic {
        private static final int ALL_SETS = 1 << MOST_FIELDS;
        private static final int EDIT_SETS = 1 << MOST_EDITS;

        /** A place for each value of a field, and ahead of them one for a missing answer. */
        private static final int PLACES = MOST_VALUES + 1;

        private final Plan plan;
        /** The edits that an answer leaves open: a missing one those that do not look at the field. */
        private final int[] editsOf = new int[MOST_FIELDS * PLACES];
        /** All sets of fields, the one to be taken first as least ahead. */
        private final int[] lightest = new int[ALL_SETS];
        /** For each set of fields the sets of edits that some values there get rid of, all of them. */
        private final long[] curable = new long[ALL_SETS];
        private int[] tally = new int[EDIT_SETS];
        private int[] nextTally = new int[EDIT_SETS];
        int passingForms;

        Logic(Plan plan) {
            this.plan = plan;
        }

        void prepare() {
            for (int field = 0; field < plan.fieldCount; field++) {
                int common = plan.allEdits();
                for (int value = 0; value < plan.sizes[field]; value++) {
                    int edits = editsWith(field, value);
                    editsOf[field * PLACES + 1 + value] = edits;
                    common &= edits;
                }
                editsOf[field * PLACES] = common;
            }
            curable[0] = Family.BOTTOM;
            for (int field = 0; field < plan.fieldCount; field++) {
                for (int set = 0; set < 1 << field; set++) {
                    curable[set | 1 << field] = aheadOf(curable[set], field, plan.allValues(field));
                }
            }
            sortSets();
            passingForms = tallyPassing(plan.allEdits(), plan.allFields());
        }

        private void sortSets() {
            for (int set = 0; set <= plan.allFields(); set++) {
                int place = set;
                while (place > 0 && isLess(set, lightest[place - 1])) {
                    lightest[place] = lightest[place - 1];
                    place--;
                }
                lightest[place] = set;
            }
        }

        /** Of sets as heavy and as large the one that comes first stays ahead: it is the least as bits. */
        private boolean isLess(int set, int other) {
            int weight = plan.weightOf(set);
            int otherWeight = plan.weightOf(other);
            return weight < otherWeight
                    || (weight == otherWeight && Integer.bitCount(set) < Integer.bitCount(other));
        }

        private int editsWith(int field, int value) {
            int edits = 0;
            for (int edit = 0; edit < plan.editCount; edit++) {
                if (((plan.editSet(edit, field) >> value) & 1) != 0) {
                    edits |= 1 << edit;
                }
            }
            return edits;
        }

        int editsOfAnswer(int field, int value) {
            return editsOf[field * PLACES + 1 + value];
        }

        long aheadOf(long family, int field, int values) {
            long result = 0;
            for (int value = 0; value < plan.sizes[field]; value++) {
                if (((values >> value) & 1) != 0) {
                    result |= Family.ahead(family, editsOfAnswer(field, value));
                }
            }
            return result;
        }

        int editsFailed(int code) {
            return editsLeft(code, 0);
        }

        /** The edits that the answers outside of a set of fields leave open. */
        private int editsLeft(int code, int set) {
            int edits = plan.allEdits();
            for (int field = 0; field < plan.fieldCount; field++) {
                if (((set >> field) & 1) == 0) {
                    edits &= editsOfAnswer(field, Code.answerAt(code, field));
                }
            }
            return edits;
        }

        /** Whether a row passes. */
        boolean isRight(int code) {
            return Code.missingIn(code, plan.fieldCount) == 0 && editsLeft(code, 0) == 0;
        }

        /** An edit is idle, if no form fails it alone. */
        boolean isIdle(int edit) {
            long family = Family.BOTTOM;
            for (int field = plan.fieldCount - 1; field >= 0; field--) {
                family = aheadOf(family, field, plan.editSet(edit, field));
            }
            return !Family.has(family, plan.allEdits() & ~(1 << edit));
        }

        boolean canMend(int code, int set) {
            return (Code.missingIn(code, plan.fieldCount) & ~set) == 0
                    && Family.has(curable[set], editsLeft(code, set));
        }

        int countWays(int code, int set) {
            return canMend(code, set) ? tallyPassing(editsLeft(code, set), set) : 0;
        }

        /** How many choices of values in a set of fields leave none of the edits told open. */
        private int tallyPassing(int edits, int set) {
            Arrays.fill(tally, 0);
            tally[edits] = 1;
            for (int field = 0; field < plan.fieldCount; field++) {
                if (((set >> field) & 1) != 0) {
                    tallyField(field);
                }
            }
            return tally[0];
        }

        private void tallyField(int field) {
            Arrays.fill(nextTally, 0);
            for (int edits = 0; edits < EDIT_SETS; edits++) {
                if (tally[edits] != 0) {
                    for (int value = 0; value < plan.sizes[field]; value++) {
                        nextTally[edits & editsOfAnswer(field, value)] += tally[edits];
                    }
                }
            }
            int[] spare = tally;
            tally = nextTally;
            nextTally = spare;
        }

        /** The values that a field has in the ways by a set of fields. */
        int valuesIn(int code, int set, int field) {
            if (!canMend(code, set)) {
                return 0;
            }
            if (((set >> field) & 1) == 0) {
                return 1 << Code.answerAt(code, field);
            }
            return curingValues(editsLeft(code, set), set, field);
        }

        /** The values of a field of the set behind which the set's other fields can do the rest. */
        private int curingValues(int edits, int set, int field) {
            int values = 0;
            for (int value = 0; value < plan.sizes[field]; value++) {
                if (Family.has(curable[set & ~(1 << field)], edits & editsOfAnswer(field, value))) {
                    values |= 1 << value;
                }
            }
            return values;
        }

        int leastSet(int code) {
            for (int k = 0; k <= plan.allFields(); k++) {
                if (canMend(code, lightest[k])) {
                    return lightest[k];
                }
            }
            return NONE;
        }

        int leastWeight(int code) {
            int set = leastSet(code);
            return set == NONE ? NONE : plan.weightOf(set);
        }

        int countLeast(int code) {
            int weight = leastWeight(code);
            int found = 0;
            for (int set = 0; set <= plan.allFields(); set++) {
                if (plan.weightOf(set) == weight && canMend(code, set)) {
                    found++;
                }
            }
            return found;
        }

        int leastAt(int code, int k) {
            int weight = leastWeight(code);
            int found = 0;
            for (int set = 0; set <= plan.allFields(); set++) {
                if (plan.weightOf(set) == weight && canMend(code, set)) {
                    if (found == k) {
                        return set;
                    }
                    found++;
                }
            }
            return NONE;
        }

        int forcedIn(int code) {
            int least = leastSet(code);
            int forced = 0;
            for (int field = 0; field < plan.fieldCount && least != NONE; field++) {
                if (((least >> field) & 1) != 0 && Integer.bitCount(valuesIn(code, least, field)) == 1) {
                    forced |= 1 << field;
                }
            }
            return forced;
        }

        /** The way by a set that mends the row which has, field by field, the least values. */
        int firstWay(int code, int set) {
            int result = code;
            int edits = editsLeft(code, set);
            int rest = set;
            for (int field = 0; field < plan.fieldCount; field++) {
                if (((rest >> field) & 1) != 0) {
                    int value = lowestOf(curingValues(edits, rest, field));
                    if (value == NONE) {
                        return NONE;
                    }
                    result = Code.withAnswer(result, field, value);
                    edits &= editsOfAnswer(field, value);
                    rest &= ~(1 << field);
                }
            }
            return result;
        }

        private static int lowestOf(int values) {
            for (int value = 0; value < MOST_VALUES; value++) {
                if (((values >> value) & 1) != 0) {
                    return value;
                }
            }
            return NONE;
        }
    }

    /** All greatest boxes, each in one number: five bits a field; looked for when they are first asked for. */
    private static final class Boxes {
        private static final int PLACE = (1 << MOST_VALUES) - 1;

        private final Plan plan;
        private final Logic logic;
        private int[] found = new int[64];
        private int foundCount;
        private boolean known;
        private final int[] chosen = new int[MOST_FIELDS];
        /** What the sets chosen ahead of a field leave open, and what it is with each value of that field. */
        private final long[] open = new long[MOST_FIELDS + 1];
        private final long[] openWith = new long[MOST_FIELDS * MOST_VALUES];

        Boxes(Plan plan, Logic logic) {
            this.plan = plan;
            this.logic = logic;
        }

        void forget() {
            known = false;
        }

        int size() {
            if (!known) {
                foundCount = 0;
                open[0] = Family.TOP;
                search(0);
                known = true;
            }
            return foundCount;
        }

        private void search(int field) {
            if (field >= plan.fieldCount) {
                return;
            }
            int usable = meetValues(field);
            if (field == plan.fieldCount - 1) {
                chosen[field] = usable;
                if (usable != 0 && isGreatest()) {
                    keepChosen();
                }
                return;
            }
            searchBehind(field, usable);
        }

        private void searchBehind(int field, int usable) {
            for (int set = 1; set <= usable; set++) {
                if ((set & ~usable) == 0 && isClosed(field, set)) {
                    chosen[field] = set;
                    open[field + 1] = joined(field, set);
                    search(field + 1);
                }
            }
        }

        /** The values of a field behind which no form so far is sure to pass. */
        private int meetValues(int field) {
            int usable = 0;
            for (int value = 0; value < plan.sizes[field]; value++) {
                long family = Family.met(open[field], logic.editsOfAnswer(field, value));
                openWith[field * MOST_VALUES + value] = family;
                if (family != Family.ALL) {
                    usable |= 1 << value;
                }
            }
            return usable;
        }

        private long joined(int field, int set) {
            long family = 0;
            for (int value = 0; value < plan.sizes[field]; value++) {
                if (((set >> value) & 1) != 0) {
                    family |= openWith[field * MOST_VALUES + value];
                }
            }
            return family;
        }

        /** A set that a further value would not hurt is in no greatest box: most sets end here. */
        private boolean isClosed(int field, int set) {
            long family = joined(field, set);
            for (int value = 0; value < plan.sizes[field]; value++) {
                if (((set >> value) & 1) == 0 && (openWith[field * MOST_VALUES + value] & ~family) == 0) {
                    return false;
                }
            }
            return true;
        }

        /** Whether each further value, in each field, lets a form of the box chosen pass. */
        private boolean isGreatest() {
            long curable = Family.BOTTOM;
            for (int field = plan.fieldCount - 1; field >= 0; field--) {
                for (int value = 0; value < plan.sizes[field]; value++) {
                    if (((chosen[field] >> value) & 1) == 0
                            && (openWith[field * MOST_VALUES + value] & curable) == 0) {
                        return false;
                    }
                }
                curable = logic.aheadOf(curable, field, chosen[field]);
            }
            return true;
        }

        private void keepChosen() {
            if (foundCount == found.length) {
                found = Arrays.copyOf(found, foundCount * 2);
            }
            int box = 0;
            for (int field = 0; field < plan.fieldCount; field++) {
                box |= chosen[field] << (MOST_VALUES * field);
            }
            found[foundCount] = box;
            foundCount++;
        }

        int setOf(int k, int field) {
            return (found[k] >> (MOST_VALUES * field)) & PLACE;
        }

        int entering(int k) {
            int fields = 0;
            for (int field = 0; field < plan.fieldCount; field++) {
                if (setOf(k, field) != plan.allValues(field)) {
                    fields |= 1 << field;
                }
            }
            return fields;
        }

        int fewestEdits(int k) {
            long spared = Family.BOTTOM;
            for (int field = plan.fieldCount - 1; field >= 0; field--) {
                spared = logic.aheadOf(spared, field, setOf(k, field));
            }
            int best = plan.allEdits();
            for (int edits = plan.allEdits(); edits > 0; edits--) {
                if (!Family.has(spared, edits) && Integer.bitCount(edits) <= Integer.bitCount(best)) {
                    best = edits;
                }
            }
            return best;
        }

        int allForms(int k) {
            int forms = 1;
            for (int field = 0; field < plan.fieldCount; field++) {
                forms *= Integer.bitCount(setOf(k, field));
            }
            return forms;
        }

        int ownForms(int k) {
            return ownFrom(k, 0, 0);
        }

        private int ownFrom(int k, int field, int form) {
            if (field < plan.fieldCount) {
                return ownBehind(k, field, form);
            }
            return isInOther(k, form) ? 0 : 1;
        }

        private int ownBehind(int k, int field, int form) {
            int forms = 0;
            for (int value = 0; value < plan.sizes[field]; value++) {
                if (((setOf(k, field) >> value) & 1) != 0) {
                    forms += ownFrom(k, field + 1, form | bitOf(field, value));
                }
            }
            return forms;
        }

        private boolean isInOther(int k, int form) {
            for (int other = 0; other < foundCount; other++) {
                if (other != k && (form & ~found[other]) == 0) {
                    return true;
                }
            }
            return false;
        }

        private static int bitOf(int field, int value) {
            return 1 << (MOST_VALUES * field + value);
        }

        /** A row without missing answers as a box of one form. */
        private int formOf(int code) {
            int form = 0;
            for (int field = 0; field < plan.fieldCount; field++) {
                form |= bitOf(field, Code.answerAt(code, field));
            }
            return form;
        }

        /** The number of the k-th box that a row is in. */
        int holding(int code, int k) {
            int form = formOf(code);
            int rank = 0;
            for (int box = 0; box < size(); box++) {
                if ((form & ~found[box]) == 0) {
                    if (rank == k) {
                        return box;
                    }
                    rank++;
                }
            }
            return NONE;
        }

        int blamed(int code) {
            int best = NONE;
            int most = 0;
            for (int field = 0; field < plan.fieldCount; field++) {
                int entered = countEntered(formOf(code), field);
                boolean lighter = best != NONE && plan.weights[field] < plan.weights[best];
                if (entered > most || (entered == most && lighter)) {
                    most = entered;
                    best = field;
                }
            }
            return best;
        }

        private int countEntered(int form, int field) {
            int entered = 0;
            for (int box = 0; box < size(); box++) {
                if ((form & ~found[box]) == 0 && setOf(box, field) != plan.allValues(field)) {
                    entered++;
                }
            }
            return entered;
        }
    }

    /** The rows as they are, and as they were ahead of the latest acts. */
    private static final class Rows {
        private static final int MOST_KEPT = 16;
        /** A count of rows, then the rows. */
        private static final int PAGE = 1 + MOST_ROWS;

        final int[] codes = new int[MOST_ROWS];
        int count;
        int kept;
        private final int[] pages = new int[MOST_KEPT * PAGE];

        void start(Plan plan) {
            count = plan.rowCount;
            System.arraycopy(plan.rowCodes, 0, codes, 0, MOST_ROWS);
            kept = 0;
        }

        int codeOf(int row) {
            return row < 0 || row >= count ? 0 : codes[row];
        }

        /** Called ahead of every act. */
        void remember() {
            if (kept == MOST_KEPT) {
                System.arraycopy(pages, PAGE, pages, 0, (MOST_KEPT - 1) * PAGE);
                kept--;
            }
            pages[kept * PAGE] = count;
            System.arraycopy(codes, 0, pages, kept * PAGE + 1, MOST_ROWS);
            kept++;
        }

        boolean takeBack() {
            if (kept == 0) {
                return false;
            }
            kept--;
            count = pages[kept * PAGE];
            System.arraycopy(pages, kept * PAGE + 1, codes, 0, MOST_ROWS);
            return true;
        }
    }

    /** The donors of one row at a time, and what the row is when mended. */
    private static final class Donors {
        private final Plan plan;
        private final Logic logic;
        private final Rows rows;
        private final int[] order = new int[MOST_ROWS];
        private final int[] fars = new int[MOST_ROWS];
        private int count;

        Donors(Plan plan, Logic logic, Rows rows) {
            this.plan = plan;
            this.logic = logic;
            this.rows = rows;
        }

        int rowAt(int k) {
            return k < 0 || k >= count ? NONE : order[k];
        }

        int farAt(int k) {
            return k < 0 || k >= count ? NONE : fars[k];
        }

        void gather(int row) {
            int code = rows.codeOf(row);
            int least = logic.leastSet(code);
            count = 0;
            for (int other = 0; other < rows.count && least != NONE; other++) {
                if (other != row && gives(code, rows.codes[other], least)) {
                    insert(other, plan.farApart(code, rows.codes[other], least));
                }
            }
        }

        private boolean gives(int code, int other, int least) {
            return logic.isRight(other) && isOfGroup(code, other, least)
                    && logic.isRight(Code.blend(code, other, least));
        }

        private boolean isOfGroup(int code, int other, int least) {
            int field = plan.groupField;
            return field == NONE || ((least >> field) & 1) != 0
                    || Code.answerAt(code, field) == Code.answerAt(other, field);
        }

        /** Rows come by their numbers, so one as far as others goes behind these. */
        private void insert(int row, int far) {
            int place = count;
            while (place > 0 && fars[place - 1] > far) {
                fars[place] = fars[place - 1];
                order[place] = order[place - 1];
                place--;
            }
            fars[place] = far;
            order[place] = row;
            count++;
        }

        /** A row as a way leaves it; NONE where it is not mended. */
        int mended(int row, int way) {
            int code = rows.codeOf(row);
            if (logic.isRight(code)) {
                return code;
            }
            int least = logic.leastSet(code);
            if (least == NONE) {
                return NONE;
            }
            if (way == LEAST_VALUES) {
                return logic.firstWay(code, least);
            }
            gather(row);
            if (count == 0) {
                return NONE;
            }
            int donor = way == MOST_DONORS ? commonest(least) : order[0];
            return Code.blend(code, rows.codeOf(donor), least);
        }

        /** The first of the donors whose answers in a set of fields the most donors have. */
        private int commonest(int set) {
            int best = order[0];
            int most = 0;
            for (int k = 0; k < count; k++) {
                int same = countSame(Code.part(rows.codeOf(order[k]), set), set);
                if (same > most) {
                    most = same;
                    best = order[k];
                }
            }
            return best;
        }

        private int countSame(int part, int set) {
            int same = 0;
            for (int k = 0; k < count; k++) {
                if (Code.part(rows.codeOf(order[k]), set) == part) {
                    same++;
                }
            }
            return same;
        }
    }

    /** Rows counted and put in groups. */
    private static final class Kinds {
        /** Above the number of any pattern of fields or any weight of all fields. */
        private static final int STEP = 64;

        private final Plan plan;
        private final Logic logic;
        private final Rows rows;
        private final int[] keys = new int[MOST_ROWS];
        private final int[] queue = new int[MOST_ROWS];

        Kinds(Plan plan, Logic logic, Rows rows) {
            this.plan = plan;
            this.logic = logic;
            this.rows = rows;
        }

        int countRight() {
            int found = 0;
            for (int row = 0; row < rows.count; row++) {
                if (logic.isRight(rows.codes[row])) {
                    found++;
                }
            }
            return found;
        }

        int countMissing() {
            int found = 0;
            for (int row = 0; row < rows.count; row++) {
                found += Integer.bitCount(Code.missingIn(rows.codes[row], plan.fieldCount));
            }
            return found;
        }

        /** The set of all fields mends each row, or none does. */
        int countMendable() {
            return logic.passingForms > 0 ? rows.count : 0;
        }

        // ---- shares

        private boolean isInGroup(int code, int group) {
            return group == NONE || Code.answerAt(code, plan.groupField) == group;
        }

        int countInGroup(int group, boolean right) {
            int found = 0;
            for (int row = 0; row < rows.count; row++) {
                if (isInGroup(rows.codes[row], group) && (!right || logic.isRight(rows.codes[row]))) {
                    found++;
                }
            }
            return found;
        }

        /** How many rows of a group that pass have a value. */
        private int countHaving(int group, int field, int value) {
            int found = 0;
            for (int row = 0; row < rows.count; row++) {
                int code = rows.codes[row];
                if (Code.answerAt(code, field) == value && isInGroup(code, group) && logic.isRight(code)) {
                    found++;
                }
            }
            return found;
        }

        int shareOf(int field, int value) {
            int right = countRight();
            return right == 0 ? 0 : countHaving(NONE, field, value) * 100 / right;
        }

        int likeliest(int field, int values) {
            int best = NONE;
            int greatest = NONE;
            for (int value = 0; value < plan.sizes[field]; value++) {
                int share = shareOf(field, value);
                if (((values >> value) & 1) != 0 && share > greatest) {
                    greatest = share;
                    best = value;
                }
            }
            return best;
        }

        int usualIn(int group, int field) {
            int best = NONE;
            int most = 0;
            for (int value = 0; value < plan.sizes[field]; value++) {
                int having = countHaving(group, field, value);
                if (having > most) {
                    most = having;
                    best = value;
                }
            }
            return best;
        }

        // ---- rows that do not pass

        int countChanges(int field) {
            int found = 0;
            for (int row = 0; row < rows.count; row++) {
                // A row that passes has no field in its least set, and none is no set.
                int least = logic.leastSet(rows.codes[row]);
                if (least != NONE && ((least >> field) & 1) != 0) {
                    found++;
                }
            }
            return found;
        }

        int urgentAt(int k) {
            for (int row = 0; row < rows.count; row++) {
                keys[row] = urgency(rows.codes[row]);
            }
            for (int row = 0; row < rows.count; row++) {
                if (keys[row] != NONE && rankOf(row) == k) {
                    return row;
                }
            }
            return NONE;
        }

        /** NONE for a row that passes. */
        private int urgency(int code) {
            if (logic.isRight(code)) {
                return NONE;
            }
            int weight = logic.leastWeight(code);
            return Integer.bitCount(logic.editsFailed(code)) * STEP + (weight == NONE ? STEP - 1 : weight);
        }

        /** How many rows have a greater key, or the same and a lower number. */
        private int rankOf(int row) {
            int rank = 0;
            for (int other = 0; other < rows.count; other++) {
                if (keys[other] > keys[row] || (other < row && keys[other] == keys[row])) {
                    rank++;
                }
            }
            return rank;
        }

        // ---- patterns

        private void keyPatterns() {
            for (int row = 0; row < rows.count; row++) {
                int code = rows.codes[row];
                keys[row] = logic.editsFailed(code) * STEP + Code.missingIn(code, plan.fieldCount);
            }
        }

        private void keyAnswers() {
            System.arraycopy(rows.codes, 0, keys, 0, rows.count);
        }

        private int firstWithKey(int key) {
            for (int row = 0; row < rows.count; row++) {
                if (keys[row] == key) {
                    return row;
                }
            }
            return NONE;
        }

        private int countKey(int key) {
            int found = 0;
            for (int row = 0; row < rows.count; row++) {
                if (keys[row] == key) {
                    found++;
                }
            }
            return found;
        }

        private int countKeys() {
            int found = 0;
            for (int row = 0; row < rows.count; row++) {
                if (firstWithKey(keys[row]) == row) {
                    found++;
                }
            }
            return found;
        }

        int patternFirst(int k) {
            keyPatterns();
            int found = 0;
            for (int row = 0; row < rows.count; row++) {
                if (firstWithKey(keys[row]) == row) {
                    if (found == k) {
                        return row;
                    }
                    found++;
                }
            }
            return NONE;
        }

        int patternRows(int row) {
            keyPatterns();
            return countKey(keys[row]);
        }

        int countPatterns() {
            keyPatterns();
            return countKeys();
        }

        int countUnlike() {
            keyAnswers();
            return countKeys();
        }

        int firstAlike(int row) {
            keyAnswers();
            return firstWithKey(keys[row]);
        }

        int countAlike(int row) {
            keyAnswers();
            return countKey(keys[row]);
        }

        // ---- bunches

        int bunchOf(int row) {
            return keys[row];
        }

        /** How many there are; each row's key is its bunch then. */
        int gatherBunches(int n) {
            Arrays.fill(keys, NONE);
            int found = 0;
            for (int row = 0; row < rows.count; row++) {
                if (keys[row] == NONE) {
                    fillBunch(row, found, n);
                    found++;
                }
            }
            return found;
        }

        private void fillBunch(int row, int bunch, int n) {
            int waiting = 1;
            queue[0] = row;
            keys[row] = bunch;
            for (int k = 0; k < waiting && k < MOST_ROWS; k++) {
                int code = rows.codeOf(queue[k]);
                for (int other = 0; other < rows.count; other++) {
                    if (keys[other] == NONE && plan.farApart(code, rows.codes[other], 0) <= n) {
                        keys[other] = bunch;
                        queue[waiting] = other;
                        waiting++;
                    }
                }
            }
        }
    }
}
