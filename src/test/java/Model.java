import java.util.ArrayList;
import java.util.Arrays;
import java.util.Comparator;
import java.util.LinkedHashMap;
import java.util.LinkedHashSet;
import java.util.List;
import java.util.Map;
import java.util.NoSuchElementException;
import java.util.Set;
import java.util.TreeSet;
import java.util.regex.Matcher;
import java.util.regex.Pattern;

/** The document once more, by trying all forms: slow, plain, and without any of the program's thoughts. */
final class Model {
    private static final int NONE = -1;
    private static final Set<String> OWN =
            Set.of("field", "named", "scaled", "weight", "group", "edit", "and", "in", "row");

    private static final class Fault extends RuntimeException {
        private static final long serialVersionUID = 1L;
        final int at;

        Fault(int at) {
            this.at = at;
        }
    }

    private record Token(String text, int at) {
    }

    private record Field(String name, int size, int weight, boolean scaled) {
    }

    private StringBuilder tape = new StringBuilder();
    private List<Field> fields = new ArrayList<>();
    private int groups = NONE;
    private List<int[]> edits = new ArrayList<>();
    private List<int[]> rows = new ArrayList<>();
    private List<int[]> forms = new ArrayList<>();
    private List<int[]> boxes = new ArrayList<>();
    private List<List<int[]>> history = new ArrayList<>();
    private String written = "";
    private int fault = NONE;

    // ---- the text

    public int feed(int a, int b, int c, int d, int e) {
        if (tape.length() + 20 > 400) {
            return NONE;
        }
        for (int number : new int[] {a, b, c, d, e}) {
            for (int shift = 24; shift >= 0; shift -= 8) {
                tape.append((char) (number >>> shift & 255));
            }
        }
        return tape.length();
    }

    public boolean end(int n) {
        if (n < 0 || n > tape.length()) {
            return false;
        }
        tape.setLength(n);
        return true;
    }

    public int read() {
        String text = tape.toString();
        tape.setLength(0);
        Text told = new Text(text);
        try {
            told.parse();
        } catch (Fault found) {
            fault = found.at;
            throw new IllegalArgumentException();
        }
        fault = NONE;
        fields = told.fields;
        groups = told.groups;
        edits = told.edits;
        rows = told.rows;
        history.clear();
        forms = allForms();
        boxes = null;
        return rows.size();
    }

    private static final class Text {
        final List<Token> tokens = new ArrayList<>();
        final int length;
        int at = 0;
        final List<Field> fields = new ArrayList<>();
        int groups = NONE;
        final List<int[]> edits = new ArrayList<>();
        final List<int[]> rows = new ArrayList<>();

        Text(String text) {
            length = text.length();
            Matcher m = Pattern.compile("[a-z]+|[0-9]+|[^\\t\\n ]").matcher(text);
            while (m.find()) {
                tokens.add(new Token(m.group(), m.start()));
            }
        }

        Token peek() {
            return at < tokens.size() ? tokens.get(at) : new Token("", length);
        }

        String take(boolean fits) {
            if (!fits) {
                throw new Fault(peek().at);
            }
            return tokens.get(at++).text;
        }

        String take(String... which) {
            return take(Arrays.asList(which).contains(peek().text));
        }

        int number(int low, int high) {
            return Integer.parseInt(take(peek().text.matches("[0-9]") && Integer.parseInt(peek().text) >= low
                    && Integer.parseInt(peek().text) <= high));
        }

        int told() {
            for (int f = 0; f < fields.size(); f++) {
                if (fields.get(f).name.equals(peek().text)) {
                    return f;
                }
            }
            return NONE;
        }

        void parse() {
            boolean others = false;
            while (at < tokens.size()) {
                String word = peek().text;
                boolean fits = switch (word) {
                    case "field" -> !others && fields.size() < 5;
                    case "group" -> !fields.isEmpty() && groups == NONE;
                    case "edit" -> !fields.isEmpty() && edits.size() < 6;
                    case "row" -> !fields.isEmpty() && rows.size() < 40;
                    default -> false;
                };
                take(fits);
                others |= !word.equals("field");
                switch (word) {
                    case "field" -> field();
                    case "group" -> {
                        groups = told();
                        take(groups != NONE);
                    }
                    case "edit" -> edit();
                    default -> row();
                }
                take(";");
            }
            if (fields.isEmpty()) {
                throw new Fault(length);
            }
        }

        void field() {
            String name = take(peek().text.matches("[a-z]{1,6}") && !OWN.contains(peek().text) && told() == NONE);
            boolean scaled = take("named", "scaled").equals("scaled");
            int size = number(2, 5);
            int weight = 1;
            if (peek().text.equals("weight")) {
                take("weight");
                weight = number(1, 9);
            }
            fields.add(new Field(name, size, weight, scaled));
        }

        void edit() {
            int[] sets = new int[fields.size()];
            do {
                int f = told();
                take(f != NONE && sets[f] == 0);
                take("in");
                do {
                    int low = number(0, fields.get(f).size - 1);
                    int high = low;
                    if (peek().text.equals("-")) {
                        take("-");
                        high = number(low, fields.get(f).size - 1);
                    }
                    for (int v = low; v <= high; v++) {
                        sets[f] |= 1 << v;
                    }
                } while (peek().text.equals(",") && take(",") != null);
            } while (peek().text.equals("and") && take("and") != null);
            for (int f = 0; f < sets.length; f++) {
                sets[f] = sets[f] == 0 ? (1 << fields.get(f).size) - 1 : sets[f];
            }
            edits.add(sets);
        }

        void row() {
            int[] row = new int[fields.size()];
            for (int f = 0; f < row.length; f++) {
                if (peek().text.equals("?")) {
                    take("?");
                    row[f] = NONE;
                } else {
                    row[f] = number(0, fields.get(f).size - 1);
                }
            }
            rows.add(row);
        }
    }

    public int fault() {
        return fault;
    }

    // ---- forms

    private List<int[]> allForms() {
        List<int[]> all = new ArrayList<>();
        all.add(new int[0]);
        for (Field field : fields) {
            List<int[]> longer = new ArrayList<>();
            for (int[] form : all) {
                for (int v = 0; v < field.size; v++) {
                    int[] next = Arrays.copyOf(form, form.length + 1);
                    next[form.length] = v;
                    longer.add(next);
                }
            }
            all = longer;
        }
        return all;
    }

    private int all(int field) {
        return (1 << fields.get(field).size) - 1;
    }

    private static boolean in(int set, int member) {
        return (set >> member & 1) != 0;
    }

    private boolean failsEdit(int[] row, int[] edit) {
        for (int f = 0; f < row.length; f++) {
            boolean itsField = edit[f] != all(f);
            if (itsField && (row[f] == NONE || !in(edit[f], row[f]))) {
                return false;
            }
        }
        return true;
    }

    private int failed(int[] row) {
        int set = 0;
        for (int e = 0; e < edits.size(); e++) {
            set |= failsEdit(row, edits.get(e)) ? 1 << e : 0;
        }
        return set;
    }

    private static int missing(int[] row) {
        int set = 0;
        for (int f = 0; f < row.length; f++) {
            set |= row[f] == NONE ? 1 << f : 0;
        }
        return set;
    }

    private boolean passes(int[] row) {
        return missing(row) == 0 && failed(row) == 0;
    }

    private static boolean holds(int[] box, int[] form) {
        for (int f = 0; f < form.length; f++) {
            if (!in(box[f], form[f])) {
                return false;
            }
        }
        return true;
    }

    private static boolean inside(int[] box, int[] other) {
        for (int f = 0; f < box.length; f++) {
            if ((box[f] & ~other[f]) != 0) {
                return false;
            }
        }
        return true;
    }

    /** Starts with the box of all forms, and parts each box that holds a form that passes. */
    private List<int[]> greatest() {
        if (boxes != null) {
            return boxes;
        }
        List<int[]> all = new ArrayList<>();
        int[] whole = new int[fields.size()];
        for (int f = 0; f < whole.length; f++) {
            whole[f] = all(f);
        }
        all.add(whole);
        for (int[] form : forms) {
            if (passes(form)) {
                all = parted(all, form);
            }
        }
        all.sort(Arrays::compare);
        boxes = all;
        return all;
    }

    private static List<int[]> parted(List<int[]> all, int[] form) {
        List<int[]> kept = new ArrayList<>();
        List<int[]> parts = new ArrayList<>();
        for (int[] box : all) {
            if (!holds(box, form)) {
                kept.add(box);
                continue;
            }
            for (int f = 0; f < form.length; f++) {
                int[] part = box.clone();
                part[f] &= ~(1 << form[f]);
                if (part[f] != 0) {
                    parts.add(part);
                }
            }
        }
        for (int[] part : parts) {
            if (kept.stream().noneMatch(box -> inside(part, box))) {
                kept.removeIf(box -> inside(box, part));
                kept.add(part);
            }
        }
        return kept;
    }

    private void needField(int field) {
        if (field < 0 || field >= fields.size()) {
            throw new IndexOutOfBoundsException();
        }
    }

    private int[] row(int row) {
        if (row < 0 || row >= rows.size()) {
            throw new IndexOutOfBoundsException();
        }
        return rows.get(row);
    }

    private int[] edit(int edit) {
        if (edit < 0 || edit >= edits.size()) {
            throw new IndexOutOfBoundsException();
        }
        return edits.get(edit);
    }

    private int[] box(int k) {
        if (k < 0 || k >= boxes()) {
            throw new NoSuchElementException();
        }
        return greatest().get(k);
    }

    private static void need(boolean number) {
        if (!number) {
            throw new IllegalArgumentException();
        }
    }

    private static void can(boolean state) {
        if (!state) {
            throw new IllegalStateException();
        }
    }

    private static void there(boolean what) {
        if (!what) {
            throw new NoSuchElementException();
        }
    }

    public int field(int field, int what) {
        needField(field);
        there(what >= 0 && what <= 3);
        Field f = fields.get(field);
        return new int[] {f.size, f.weight, f.scaled ? 1 : 0, field == groups ? 1 : 0}[what];
    }

    public int name(int field, int k) {
        needField(field);
        String name = fields.get(field).name;
        return k >= 0 && k < name.length() ? name.charAt(k) : NONE;
    }

    public int edit(int edit, int field) {
        int[] sets = edit(edit);
        needField(field);
        return sets[field];
    }

    public int from(int k) {
        int[] box = box(k);
        int best = NONE;
        for (int set = 0; set < 1 << edits.size(); set++) {
            int tried = set;
            boolean good = forms.stream().filter(f -> holds(box, f)).allMatch(f -> (failed(f) & tried) != 0);
            if (good && (best == NONE || Integer.bitCount(set) < Integer.bitCount(best))) {
                best = set;
            }
        }
        return best;
    }

    public int cover(int k, boolean own) {
        int[] box = box(k);
        return (int) forms.stream().filter(f -> holds(box, f))
                .filter(f -> !own || greatest().stream().filter(b -> holds(b, f)).count() == 1).count();
    }

    public boolean idle(int edit) {
        edit(edit);
        return forms.stream().noneMatch(f -> failed(f) == 1 << edit);
    }

    public int boxes() {
        return fields.isEmpty() ? 0 : greatest().size();
    }

    public int box(int k, int field) {
        int[] box = box(k);
        if (field == NONE) {
            return entered(box);
        }
        needField(field);
        return box[field];
    }

    private int entered(int[] box) {
        int set = 0;
        for (int f = 0; f < box.length; f++) {
            set |= box[f] != all(f) ? 1 << f : 0;
        }
        return set;
    }

    public int passing() {
        return (int) forms.stream().filter(this::passes).count();
    }

    public int tried(int form) {
        int n = fields.size();
        need(n > 0 && form >= 0);
        String digits = Integer.toString(form);
        need(digits.length() <= n);
        digits = "0".repeat(n - digits.length()) + digits;
        int[] values = new int[n];
        for (int f = 0; f < n; f++) {
            values[f] = digits.charAt(f) - '0';
            need(values[f] < fields.get(f).size);
        }
        return failed(values);
    }

    // ---- rows

    public int answer(int row, int field) {
        int[] answers = row(row);
        needField(field);
        return answers[field];
    }

    private List<int[]> copied() {
        List<int[]> all = new ArrayList<>();
        for (int[] row : rows) {
            all.add(row.clone());
        }
        return all;
    }

    private void act() {
        history.add(copied());
        if (history.size() > 16) {
            history.remove(0);
        }
    }

    public int tell(int row, int field, int value) {
        row(row);
        needField(field);
        need(value >= NONE && value < fields.get(field).size);
        act();
        int was = rows.get(row)[field];
        rows.get(row)[field] = value;
        return was;
    }

    public int copy(int row) {
        row(row);
        can(rows.size() < 40);
        act();
        rows.add(rows.get(row).clone());
        return rows.size() - 1;
    }

    public int drop() {
        can(!rows.isEmpty());
        act();
        rows.remove(rows.size() - 1);
        return rows.size();
    }

    public int fails(int row) {
        return failed(row(row));
    }

    public int within(int row, int k) {
        int[] answers = row(row);
        can(missing(answers) == 0);
        List<Integer> found = new ArrayList<>();
        for (int b = 0; b < boxes(); b++) {
            if (holds(greatest().get(b), answers)) {
                found.add(b);
            }
        }
        return k >= 0 && k < found.size() ? found.get(k) : NONE;
    }

    public int may(int row, int field) {
        int[] answers = row(row).clone();
        needField(field);
        can((missing(answers) & ~(1 << field)) == 0);
        int set = 0;
        for (int v = 0; v < fields.get(field).size; v++) {
            answers[field] = v;
            set |= passes(answers) ? 1 << v : 0;
        }
        return set;
    }

    public int likely(int row, int field) {
        int set = may(row, field);
        int best = NONE;
        for (int v = 0; v < fields.get(field).size; v++) {
            if (in(set, v) && (best == NONE || share(field, v) > share(field, best))) {
                best = v;
            }
        }
        return best;
    }

    public int blame(int row) {
        int[] answers = row(row);
        can(missing(answers) == 0);
        List<Integer> order = new ArrayList<>();
        int[] times = new int[answers.length];
        for (int f = 0; f < answers.length; f++) {
            int field = f;
            times[f] = (int) greatest().stream().filter(b -> holds(b, answers) && in(entered(b), field)).count();
            order.add(f);
        }
        order.sort(Comparator.<Integer>comparingInt(f -> -times[f]).thenComparingInt(f -> fields.get(f).weight)
                .thenComparingInt(f -> f));
        return times[order.get(0)] == 0 ? NONE : order.get(0);
    }

    private void needSet(int set) {
        need(set >= 0 && set < 1 << fields.size());
    }

    private List<int[]> waysOf(int[] row, int set) {
        List<int[]> ways = new ArrayList<>();
        if ((missing(row) & ~set) != 0) {
            return ways;
        }
        for (int[] form : forms) {
            boolean as = true;
            for (int f = 0; f < row.length; f++) {
                as &= in(set, f) || form[f] == row[f];
            }
            if (as && passes(form)) {
                ways.add(form);
            }
        }
        return ways;
    }

    public boolean mends(int row, int set) {
        return ways(row, set) > 0;
    }

    public int ways(int row, int set) {
        int[] answers = row(row);
        needSet(set);
        return waysOf(answers, set).size();
    }

    private int weight(int set) {
        int sum = 0;
        for (int f = 0; f < fields.size(); f++) {
            sum += in(set, f) ? fields.get(f).weight : 0;
        }
        return sum;
    }

    private List<Integer> mending(int[] row) {
        List<Integer> sets = new ArrayList<>();
        for (int set = 0; set < 1 << fields.size(); set++) {
            if (!waysOf(row, set).isEmpty()) {
                sets.add(set);
            }
        }
        sets.sort(Comparator.<Integer>comparingInt(this::weight).thenComparingInt(Integer::bitCount)
                .thenComparingInt(s -> s));
        return sets;
    }

    private int leastOf(int[] row) {
        List<Integer> sets = mending(row);
        return sets.isEmpty() ? NONE : sets.get(0);
    }

    private List<Integer> allLeast(int[] row) {
        List<Integer> sets = mending(row);
        List<Integer> light = new ArrayList<>(sets);
        light.removeIf(s -> weight(s) != weight(sets.get(0)));
        light.sort(null);
        return light;
    }

    public int least(int row, int what) {
        int[] answers = row(row);
        there(what >= 0 && what <= 2);
        int set = leastOf(answers);
        return what == 0 ? set : what == 1 ? set == NONE ? NONE : weight(set) : allLeast(answers).size();
    }

    public int leastOf(int row, int k) {
        List<Integer> sets = allLeast(row(row));
        return k >= 0 && k < sets.size() ? sets.get(k) : NONE;
    }

    private static int valuesOf(List<int[]> ways, int field) {
        int values = 0;
        for (int[] way : ways) {
            values |= 1 << way[field];
        }
        return values;
    }

    public int values(int row, int set, int field) {
        int[] answers = row(row);
        needField(field);
        needSet(set);
        return valuesOf(waysOf(answers, set), field);
    }

    public int forced(int row) {
        int[] answers = row(row);
        int set = leastOf(answers);
        int forced = 0;
        for (int f = 0; f < answers.length && set != NONE; f++) {
            if (in(set, f) && Integer.bitCount(valuesOf(waysOf(answers, set), f)) == 1) {
                forced |= 1 << f;
            }
        }
        return forced;
    }

    public int urgent(int k) {
        List<Integer> order = new ArrayList<>();
        for (int r = 0; r < rows.size(); r++) {
            if (!passes(rows.get(r))) {
                order.add(r);
            }
        }
        order.sort(Comparator.<Integer>comparingInt(r -> -Integer.bitCount(failed(rows.get(r))))
                .thenComparingInt(r -> leastOf(rows.get(r)) == NONE ? -1000 : -weight(leastOf(rows.get(r))))
                .thenComparingInt(r -> r));
        return k >= 0 && k < order.size() ? order.get(k) : NONE;
    }

    // ---- donors

    private int unlikeBy(int field, int a, int b) {
        Field f = fields.get(field);
        if (a == NONE || b == NONE) {
            return a == b ? 0 : f.weight * (f.scaled ? f.size : 1);
        }
        return f.weight * (f.scaled ? Math.abs(a - b) : a == b ? 0 : 1);
    }

    private int far(int[] row, int[] other, int without) {
        int sum = 0;
        for (int f = 0; f < row.length; f++) {
            sum += in(without, f) ? 0 : unlikeBy(f, row[f], other[f]);
        }
        return sum;
    }

    private static int[] put(int[] row, int[] values, int set) {
        int[] result = row.clone();
        for (int f = 0; f < row.length; f++) {
            result[f] = in(set, f) ? values[f] : row[f];
        }
        return result;
    }

    private List<Integer> donorsOf(int row) {
        int[] answers = rows.get(row);
        int set = leastOf(answers);
        List<Integer> donors = new ArrayList<>();
        for (int r = 0; r < rows.size() && set != NONE; r++) {
            int[] other = rows.get(r);
            boolean group = groups == NONE || in(set, groups) || other[groups] == answers[groups];
            if (r != row && passes(other) && group && passes(put(answers, other, set))) {
                donors.add(r);
            }
        }
        donors.sort(Comparator.<Integer>comparingInt(r -> far(answers, rows.get(r), set)).thenComparingInt(r -> r));
        return donors;
    }

    public int donor(int row, int k, boolean far) {
        int[] answers = row(row);
        List<Integer> donors = donorsOf(row);
        if (k < 0 || k >= donors.size()) {
            return NONE;
        }
        return far ? far(answers, rows.get(donors.get(k)), leastOf(answers)) : donors.get(k);
    }

    private int[] mended(int row, int way) {
        int[] answers = rows.get(row);
        int set = leastOf(answers);
        if (set == NONE) {
            return null;
        }
        if (passes(answers)) {
            return answers;
        }
        if (way == 2) {
            // Forms come in the order of their values, field 0 first.
            return waysOf(answers, set).get(0);
        }
        Map<String, List<int[]>> together = new LinkedHashMap<>();
        for (int donor : donorsOf(row)) {
            int[] after = put(answers, rows.get(donor), set);
            together.computeIfAbsent(Arrays.toString(after), key -> new ArrayList<>()).add(after);
        }
        int[] best = null;
        int most = 0;
        for (List<int[]> same : together.values()) {
            if (best == null || way == 1 && same.size() > most) {
                best = same.get(0);
                most = same.size();
            }
        }
        return best;
    }

    private static void needWay(int way) {
        need(way >= 0 && way <= 2);
    }

    public int would(int row, int way) {
        row(row);
        needWay(way);
        int[] after = mended(row, way);
        if (after == null) {
            return NONE;
        }
        int digits = 0;
        for (int value : after) {
            digits = digits * 10 + value;
        }
        return digits;
    }

    private static int others(int[] row, int[] after) {
        int set = 0;
        for (int f = 0; f < row.length; f++) {
            set |= row[f] != after[f] ? 1 << f : 0;
        }
        return set;
    }

    public int mend(int row, int way) {
        int[] answers = row(row);
        needWay(way);
        int[] after = mended(row, way);
        can(!passes(answers) && after != null);
        act();
        rows.set(row, after.clone());
        return Integer.bitCount(others(answers, after));
    }

    private List<int[]> allMended(int way) {
        List<int[]> all = new ArrayList<>();
        for (int r = 0; r < rows.size(); r++) {
            int[] after = mended(r, way);
            all.add((after == null ? rows.get(r) : after).clone());
        }
        return all;
    }

    public int mendAll(int way) {
        needWay(way);
        List<int[]> after = allMended(way);
        int before = right();
        act();
        rows = after;
        return right() - before;
    }

    private int right() {
        return (int) rows.stream().filter(this::passes).count();
    }

    public int trial(int way, int what) {
        needWay(way);
        there(what >= 0 && what <= 2);
        List<int[]> after = allMended(way);
        if (what == 0) {
            return (int) after.stream().filter(this::passes).count();
        }
        int sum = 0;
        for (int r = 0; r < rows.size(); r++) {
            int set = others(rows.get(r), after.get(r));
            sum += what == 1 ? Integer.bitCount(set) : weight(set);
        }
        return sum;
    }

    public int undo() {
        if (history.isEmpty()) {
            return NONE;
        }
        rows = history.remove(history.size() - 1);
        return history.size();
    }

    // ---- groups of rows

    private Map<String, List<Integer>> patternMap() {
        Map<String, List<Integer>> map = new LinkedHashMap<>();
        for (int r = 0; r < rows.size(); r++) {
            String key = failed(rows.get(r)) + "/" + missing(rows.get(r));
            map.computeIfAbsent(key, k -> new ArrayList<>()).add(r);
        }
        return map;
    }

    public int pattern(int k, int what) {
        there(k >= 0 && k < patterns() && what >= 0 && what <= 3);
        List<Integer> same = new ArrayList<>(patternMap().values()).get(k);
        int first = same.get(0);
        return new int[] {failed(rows.get(first)), missing(rows.get(first)), same.size(), first}[what];
    }

    public int patterns() {
        return patternMap().size();
    }

    public int alike(int row, boolean first) {
        int[] answers = row(row);
        List<Integer> same = new ArrayList<>();
        for (int r = 0; r < rows.size(); r++) {
            if (Arrays.equals(answers, rows.get(r))) {
                same.add(r);
            }
        }
        return first ? same.get(0) : same.size();
    }

    public int near(int row, int other) {
        return far(row(row), row(other), 0);
    }

    public int bunch(int row, int n) {
        if (row != NONE) {
            row(row);
        }
        int[] bunch = new int[rows.size()];
        for (int r = 0; r < bunch.length; r++) {
            bunch[r] = r;
        }
        for (int times = 0; times < bunch.length; times++) {
            for (int r = 0; r < bunch.length; r++) {
                for (int s = 0; s < bunch.length; s++) {
                    if (near(r, s) <= n) {
                        bunch[r] = Math.min(bunch[r], bunch[s]);
                    }
                }
            }
        }
        Set<Integer> firsts = new TreeSet<>();
        for (int first : bunch) {
            firsts.add(first);
        }
        return row == NONE ? firsts.size() : new ArrayList<>(firsts).indexOf(bunch[row]);
    }

    public int changes(int field) {
        needField(field);
        return (int) rows.stream().filter(r -> !passes(r) && leastOf(r) != NONE && in(leastOf(r), field)).count();
    }

    public int unlike() {
        Set<String> all = new LinkedHashSet<>();
        rows.forEach(r -> all.add(Arrays.toString(r)));
        return all.size();
    }

    public int group(int value, int what) {
        can(groups != NONE);
        need(value >= 0 && value < fields.get(groups).size);
        there(what == 0 || what == 1);
        return (int) rows.stream().filter(r -> r[groups] == value && (what == 0 || passes(r))).count();
    }

    public int usual(int group, int field) {
        needField(field);
        if (group != NONE) {
            group(group, 0);
        }
        int best = NONE;
        int most = 0;
        for (int v = 0; v < fields.get(field).size; v++) {
            int value = v;
            int having = (int) rows.stream().filter(r -> passes(r) && r[field] == value
                    && (group == NONE || r[groups] == group)).count();
            if (having > most) {
                most = having;
                best = v;
            }
        }
        return best;
    }

    public int share(int field, int value) {
        needField(field);
        need(value >= 0 && value < fields.get(field).size);
        int having = (int) rows.stream().filter(r -> passes(r) && r[field] == value).count();
        return right() == 0 ? 0 : having * 100 / right();
    }

    public int write(int row) {
        StringBuilder text = new StringBuilder();
        for (int value : row(row)) {
            text.append(value == NONE ? "?" : Integer.toString(value));
        }
        written = text.toString();
        return written.length();
    }

    public int octet(int k) {
        return k >= 0 && k < written.length() ? written.charAt(k) : NONE;
    }

    public int count(int what) {
        return switch (what) {
            case 0 -> fields.size();
            case 1 -> edits.size();
            case 2 -> rows.size();
            case 3 -> right();
            case 4 -> rows.stream().mapToInt(r -> Integer.bitCount(missing(r))).sum();
            case 5 -> history.size();
            case 6 -> groups;
            case 7 -> fields.isEmpty() ? 0 : forms.size();
            case 8 -> written.length();
            case 9 -> weight(-1);
            case 10 -> (int) rows.stream().filter(r -> leastOf(r) != NONE).count();
            default -> NONE;
        };
    }
}
