import java.math.BigDecimal;
import java.time.LocalDate;
import java.time.format.DateTimeFormatter;
import java.time.format.ResolverStyle;
import java.util.ArrayList;
import java.util.Collections;
import java.util.Comparator;
import java.util.HashMap;
import java.util.LinkedHashMap;
import java.util.List;
import java.util.Map;
import java.util.regex.Pattern;

/** The document once more, by other means (texts, lists, the Java library), to compare the class with. */
final class Model {
    static final int NONE = -1;
    static final long NO = -100000000000000L;
    private static final Pattern INT = Pattern.compile("0|-?[1-9][0-9]{0,8}");
    private static final Pattern FIXED = Pattern.compile("-?(0|[1-9][0-9]{0,8})\\.[0-9]{1,4}");
    private static final Pattern NAME = Pattern.compile("[A-Za-z0-9_]{1,12}");
    private static final DateTimeFormatter DATES =
        DateTimeFormatter.ofPattern("uuuu-MM-dd").withResolverStyle(ResolverStyle.STRICT);

    static final class Table {
        List<String> names = new ArrayList<>();
        List<Integer> told = new ArrayList<>();
        List<List<String>> rows = new ArrayList<>();

        Table copy() {
            Table t = new Table();
            t.names.addAll(names);
            t.told.addAll(told);
            for (List<String> row : rows) {
                t.rows.add(new ArrayList<>(row));
            }
            return t;
        }

        List<String> cells(int column) {
            List<String> cells = new ArrayList<>();
            for (List<String> row : rows) {
                cells.add(row.get(column));
            }
            return cells;
        }
    }

    static final class World {
        Table[] tables = new Table[3];
        List<List<List<Integer>>> views = new ArrayList<>();
        int[] dialect = {44, 34, 1, 0, 0, 0};

        World() {
            for (int t = 0; t < 3; t++) {
                views.add(new ArrayList<>());
            }
        }

        World copy() {
            World w = new World();
            for (int t = 0; t < 3; t++) {
                w.tables[t] = tables[t] == null ? null : tables[t].copy();
                for (List<Integer> v : views.get(t)) {
                    w.views.get(t).add(new ArrayList<>(v));
                }
            }
            w.dialect = dialect.clone();
            return w;
        }
    }

    private World now = new World();
    private World image = null;
    private final List<Table[]> acts = new ArrayList<>();
    private String tape = "";
    private String written = "";
    private final int[] fault = {0, NONE, NONE, NONE, NONE};
    private int faults = 0;

    // ---- the dialect and the tape

    boolean dialect(int what, int v) {
        List<List<Integer>> can = List.of(List.of(44, 59, 124, 9), List.of(34, 39), List.of(0, 1),
            List.of(0, 1), List.of(0, 1, 2, 3), List.of(0, 35, 37, 42));
        if (what < 0 || what > 5 || !can.get(what).contains(v)) {
            return false;
        }
        now.dialect[what] = v;
        return true;
    }

    int feed(int a, int b, int c, int d, int e) {
        if (tape.length() > 780) {
            return NONE;
        }
        StringBuilder more = new StringBuilder(tape);
        for (int n : new int[] {a, b, c, d, e}) {
            more.append((char) (n >> 24 & 255)).append((char) (n >> 16 & 255));
            more.append((char) (n >> 8 & 255)).append((char) (n & 255));
        }
        tape = more.toString();
        return tape.length();
    }

    boolean end(int n) {
        if (n < 0 || n > tape.length()) {
            return false;
        }
        tape = tape.substring(0, n);
        return true;
    }

    private String take() {
        String t = tape;
        tape = "";
        return t;
    }

    // ---- reading

    /** One LINE: its FIELDS, where they begin, where it ends; or its FAULT. */
    static final class Line {
        List<String> fields = new ArrayList<>();
        List<Integer> starts = new ArrayList<>();
        int end;
        int kind = 0;
        int place;
        int cause = NONE;

        Line fail(int k, int p, int c) {
            kind = k;
            place = p;
            cause = c;
            return this;
        }
    }

    private Line line(String t, int begin, boolean tooMany) {
        Line line = new Line();
        char sep = (char) now.dialect[0];
        char quote = (char) now.dialect[1];
        boolean trim = now.dialect[3] == 1;
        String state = "start";
        StringBuilder cell = new StringBuilder();
        String blanks = "";
        line.starts.add(begin);
        for (int p = begin; ; p++) {
            boolean over = p == t.length();
            char b = over ? 0 : t.charAt(p);
            int field = line.fields.size();
            boolean inQuotes = state.equals("quoted");
            if (over && inQuotes) {
                return line.fail(4, p, field);
            }
            boolean can = over || b == 10 || (b >= 32 && b <= 126) || (b == sep && !inQuotes);
            if (!can) {
                return line.fail(1, p, field);
            }
            if (tooMany) {
                return line.fail(6, p, NONE);
            }
            boolean ends = over || b == 10 || b == sep;
            switch (state) {
                case "quoted":
                    if (b == quote) {
                        state = "quote";
                        continue;
                    }
                    if (cell.length() == 20) {
                        return line.fail(5, p, field);
                    }
                    cell.append(b);
                    continue;
                case "quote":
                    if (!over && b == quote) {
                        if (cell.length() == 20) {
                            return line.fail(5, p, field);
                        }
                        cell.append(b);
                        state = "quoted";
                        continue;
                    }
                    // falls to what is behind the last QUOTE
                    state = "behind";
                    if (!ends) {
                        if (b == ' ' && trim) {
                            continue;
                        }
                        return line.fail(3, p, field);
                    }
                    break;
                case "behind":
                    if (!ends) {
                        if (b == ' ' && trim) {
                            continue;
                        }
                        return line.fail(3, p, field);
                    }
                    break;
                case "start":
                    if (!ends && b == ' ' && trim) {
                        continue;
                    }
                    if (!ends && b == quote) {
                        state = "quoted";
                        continue;
                    }
                    state = "plain";
                    if (!ends) {
                        cell.append(b);
                        continue;
                    }
                    break;
                default:
                    if (!ends && b == quote) {
                        return line.fail(2, p, field);
                    }
                    if (!ends && b == ' ' && trim) {
                        blanks += " ";
                        continue;
                    }
                    if (!ends) {
                        String more = cell + blanks + b;
                        if (more.length() > 20) {
                            return line.fail(5, p, field);
                        }
                        cell.append(blanks).append(b);
                        blanks = "";
                        continue;
                    }
                    break;
            }
            line.fields.add(cell.toString());
            cell.setLength(0);
            blanks = "";
            state = "start";
            if (over || b == 10) {
                line.end = p;
                return line;
            }
            if (line.fields.size() == 8) {
                return line.fail(6, p, NONE);
            }
            line.starts.add(p + 1);
        }
    }

    /** READ, as ROWS of a TABLE that is there or of a new one; null if there is a FAULT. */
    private Table readAll(String t, Table known) {
        Table made = new Table();
        int width = NONE;
        int most = 40;
        if (known != null) {
            width = known.names.size();
            most = 1;
            if (known.rows.size() == 40) {
                return failed(t, 6, 0, NONE);
            }
        }
        int at = 0;
        boolean any = false;
        while (at < t.length()) {
            int physicalEnd = t.indexOf('\n', at) < 0 ? t.length() : t.indexOf('\n', at);
            if (physicalEnd == at) {
                at++;
                continue;
            }
            if (now.dialect[5] > 0 && t.charAt(at) == now.dialect[5]) {
                at = physicalEnd + 1;
                continue;
            }
            Line line = line(t, at, made.rows.size() == most);
            if (line.kind != 0) {
                return failed(t, line.kind, line.place, line.cause);
            }
            any = true;
            at = line.end + 1;
            int n = line.fields.size();
            if (width == NONE) {
                width = n;
                for (int c = 0; c < n; c++) {
                    String name = now.dialect[2] == 1 ? line.fields.get(c) : "c" + c;
                    if (!NAME.matcher(name).matches() || made.names.contains(name)) {
                        return failed(t, 7, line.starts.get(c), c);
                    }
                    made.names.add(name);
                    made.told.add(NONE);
                }
                if (now.dialect[2] == 1) {
                    continue;
                }
            }
            if (n < width && (now.dialect[4] & 1) == 0) {
                return failed(t, 8, line.end, n);
            }
            if (n > width && (now.dialect[4] & 2) == 0) {
                return failed(t, 8, line.starts.get(width) - 1, n);
            }
            List<String> row = new ArrayList<>();
            for (int c = 0; c < width; c++) {
                row.add(c < n ? line.fields.get(c) : "");
            }
            made.rows.add(row);
        }
        if (!any) {
            return failed(t, 9, t.length(), NONE);
        }
        tell(0, NONE, NONE, NONE, NONE);
        return made;
    }

    private void tell(int... what) {
        System.arraycopy(what, 0, fault, 0, 5);
    }

    private Table failed(String t, int kind, int place, int cause) {
        String ahead = t.substring(0, place);
        int line = (int) ahead.chars().filter(b -> b == 10).count();
        tell(kind, place, line, place - (ahead.lastIndexOf('\n') + 1), cause);
        faults++;
        return null;
    }

    int read(int table) {
        String t = take();
        if (table < 0 || table > 2) {
            return NONE;
        }
        Table made = readAll(t, null);
        if (made == null) {
            return NONE;
        }
        remember();
        change(table, made);
        return made.rows.size();
    }

    int fault(int what) {
        return what < 0 || what > 4 ? NONE : fault[what];
    }

    // ---- changes

    private Table at(int table) {
        return table < 0 || table > 2 ? null : now.tables[table];
    }

    private boolean has(int table, int column) {
        Table t = at(table);
        return t != null && column >= 0 && column < t.names.size();
    }

    private boolean has(int table, int column, int row) {
        return has(table, column) && row >= 0 && row < at(table).rows.size();
    }

    private void remember() {
        Table[] old = new Table[3];
        for (int t = 0; t < 3; t++) {
            old[t] = now.tables[t] == null ? null : now.tables[t].copy();
        }
        acts.add(old);
        if (acts.size() > 6) {
            acts.remove(0);
        }
    }

    private void change(int table, Table made) {
        now.tables[table] = made;
        now.views.get(table).clear();
    }

    private static boolean canBeCell(String s) {
        return s.length() <= 20 && s.chars().allMatch(b -> b == 10 || (b >= 32 && b <= 126));
    }

    boolean put(int table, int row, int column) {
        String s = take();
        if (!has(table, column, row) || !canBeCell(s) || !takes(at(table), column, s)) {
            return false;
        }
        remember();
        at(table).rows.get(row).set(column, s);
        change(table, at(table));
        return true;
    }

    private static boolean takes(Table t, int column, String s) {
        int told = t.told.get(column);
        return told == NONE || join(told, own(s)) == told;
    }

    int row(int table) {
        String s = take();
        Table t = at(table);
        if (t == null) {
            return NONE;
        }
        Table made = readAll(s, t);
        if (made == null) {
            return NONE;
        }
        List<String> line = made.rows.get(0);
        for (int c = 0; c < line.size(); c++) {
            if (!takes(t, c, line.get(c))) {
                return NONE;
            }
        }
        remember();
        t.rows.add(line);
        change(table, t);
        return t.rows.size();
    }

    int out(int table, int row) {
        if (!has(table, 0, row)) {
            return NONE;
        }
        remember();
        at(table).rows.remove(row);
        change(table, at(table));
        return at(table).rows.size();
    }

    boolean name(int table, int column) {
        String s = take();
        if (!has(table, column) || !NAME.matcher(s).matches()) {
            return false;
        }
        int holder = at(table).names.indexOf(s);
        if (holder >= 0 && holder != column) {
            return false;
        }
        remember();
        at(table).names.set(column, s);
        change(table, at(table));
        return true;
    }

    int away(int table, int column) {
        if (!has(table, column) || at(table).names.size() == 1) {
            return NONE;
        }
        remember();
        Table t = at(table);
        t.names.remove(column);
        t.told.remove(column);
        for (List<String> row : t.rows) {
            row.remove(column);
        }
        change(table, t);
        return t.names.size();
    }

    boolean type(int table, int column, int type) {
        if (!has(table, column) || type < NONE || type == 0 || type > 5) {
            return false;
        }
        Table t = at(table);
        if (type == NONE ? t.told.get(column) == NONE : against(table, column, type) != NONE) {
            return false;
        }
        remember();
        t.told.set(column, type);
        change(table, t);
        return true;
    }

    int joined(int a, int columnA, int b, int columnB, int c) {
        int pairs = matches(a, columnA, b, columnB);
        if (pairs == NONE || pairs > 40 || c < 0 || c > 2 || c == a || c == b) {
            return NONE;
        }
        Table made = new Table();
        made.names.addAll(at(a).names);
        made.told.addAll(at(a).told);
        for (int k = 0; k < at(b).names.size(); k++) {
            if (k == columnB) {
                continue;
            }
            String name = at(b).names.get(k);
            if (made.names.contains(name)) {
                name += "_";
            }
            if (made.names.contains(name) || name.length() > 12) {
                return NONE;
            }
            made.names.add(name);
            made.told.add(at(b).told.get(k));
        }
        if (made.names.size() > 8) {
            return NONE;
        }
        for (int r : top(a)) {
            for (int q : top(b)) {
                if (match(a, columnA, r, b, columnB, q)) {
                    List<String> row = new ArrayList<>(at(a).rows.get(r));
                    List<String> more = new ArrayList<>(at(b).rows.get(q));
                    more.remove(columnB);
                    row.addAll(more);
                    made.rows.add(row);
                }
            }
        }
        remember();
        change(c, made);
        return made.rows.size();
    }

    int undo() {
        if (acts.isEmpty()) {
            return NONE;
        }
        Table[] old = acts.remove(acts.size() - 1);
        for (int t = 0; t < 3; t++) {
            change(t, old[t]);
        }
        return acts.size();
    }

    // ---- types and values

    static int own(String s) {
        if (s.isEmpty()) {
            return 0;
        }
        if (List.of("yes", "no", "true", "false").contains(s)) {
            return 1;
        }
        if (INT.matcher(s).matches()) {
            return 2;
        }
        if (FIXED.matcher(s).matches()) {
            return 3;
        }
        return date(s) == null ? 5 : 4;
    }

    private static LocalDate date(String s) {
        if (!s.matches("[0-9]{4}-[0-9]{2}-[0-9]{2}") || s.compareTo("1600") < 0) {
            return null;
        }
        try {
            return LocalDate.parse(s, DATES);
        } catch (java.time.format.DateTimeParseException e) {
            return null;
        }
    }

    static int join(int a, int b) {
        if (a > b) {
            return join(b, a);
        }
        if (a == b || a == 0 || (a == 2 && b == 3)) {
            return b;
        }
        return 5;
    }

    private static int guess(List<String> cells) {
        int type = 0;
        for (String s : cells) {
            type = join(type, own(s));
        }
        return type;
    }

    private static int typeOf(Table t, int column) {
        return t.told.get(column) == NONE ? guess(t.cells(column)) : t.told.get(column);
    }

    /** The VALUE as something comparable; null of no bytes. */
    private static Comparable<?> valueOf(String s, int type) {
        if (s.isEmpty()) {
            return null;
        }
        switch (type) {
            case 1: return s.equals("yes") || s.equals("true") ? 1L : 0L;
            case 2: return Long.parseLong(s);
            case 3: return new BigDecimal(s).movePointRight(4).longValueExact();
            case 4: return date(s).toEpochDay();
            default: return s;
        }
    }

    private static int order(String a, String b, int type) {
        Comparable<?> x = valueOf(a, type);
        Comparable<?> y = valueOf(b, type);
        if (x == null || y == null) {
            return x == y ? 0 : x == null ? -1 : 1;
        }
        return x instanceof Long l ? l.compareTo((Long) y) : ((String) x).compareTo((String) y);
    }

    // ---- views

    private List<Integer> top(int table) {
        List<List<Integer>> stack = now.views.get(table);
        if (!stack.isEmpty()) {
            return stack.get(stack.size() - 1);
        }
        List<Integer> all = new ArrayList<>();
        for (int r = 0; r < at(table).rows.size(); r++) {
            all.add(r);
        }
        return all;
    }

    private int lay(int table, List<Integer> rows) {
        now.views.get(table).add(rows);
        return rows.size();
    }

    private boolean full(int table) {
        return now.views.get(table).size() == 6;
    }

    private String text(int table, int row, int column) {
        return at(table).rows.get(row).get(column);
    }

    int narrow(int table, int column, int how) {
        String s = take();
        if (!has(table, column) || full(table) || how < 0 || how > 7 || (how < 7 && s.isEmpty())) {
            return NONE;
        }
        int type = typeOf(at(table), column);
        if (how < 6 && (!canBeCell(s) || join(type, own(s)) != type)) {
            return NONE;
        }
        List<Integer> rows = new ArrayList<>();
        for (int r : top(table)) {
            String cell = text(table, r, column);
            boolean is;
            if (how == 7) {
                is = cell.isEmpty();
            } else if (how == 6) {
                is = cell.contains(s);
            } else {
                int sign = order(cell, s, type);
                boolean[] so = {sign == 0, sign != 0, sign < 0, sign <= 0, sign > 0, sign >= 0};
                is = !cell.isEmpty() && so[how];
            }
            if (is) {
                rows.add(r);
            }
        }
        return lay(table, rows);
    }

    private List<Integer> sorted(int table, int column, boolean down) {
        int type = typeOf(at(table), column);
        List<Integer> empty = new ArrayList<>();
        List<Integer> rows = new ArrayList<>();
        for (int r : top(table)) {
            (text(table, r, column).isEmpty() ? empty : rows).add(r);
        }
        Comparator<Integer> by = (p, q) -> order(text(table, p, column), text(table, q, column), type);
        Collections.sort(rows, down ? by.reversed() : by);
        empty.addAll(rows);
        return empty;
    }

    int order(int table, int column, boolean down) {
        return !has(table, column) || full(table) ? NONE : lay(table, sorted(table, column, down));
    }

    int cut(int table, int from, int n) {
        if (at(table) == null || full(table) || from < 0 || n < 0) {
            return NONE;
        }
        List<Integer> rows = new ArrayList<>();
        List<Integer> all = top(table);
        for (int i = 0; i < all.size(); i++) {
            if (i >= from && i < (long) from + n) {
                rows.add(all.get(i));
            }
        }
        return lay(table, rows);
    }

    private Map<Object, List<Integer>> groups(int table, int column) {
        int type = typeOf(at(table), column);
        Map<Object, List<Integer>> groups = new LinkedHashMap<>();
        for (int r : top(table)) {
            groups.computeIfAbsent(valueOf(text(table, r, column), type), k -> new ArrayList<>()).add(r);
        }
        return groups;
    }

    int unlike(int table, int column) {
        if (!has(table, column) || full(table)) {
            return NONE;
        }
        List<Integer> rows = new ArrayList<>();
        for (List<Integer> group : groups(table, column).values()) {
            rows.add(group.get(0));
        }
        return lay(table, rows);
    }

    int back(int table) {
        if (at(table) == null || now.views.get(table).isEmpty()) {
            return NONE;
        }
        now.views.get(table).remove(now.views.get(table).size() - 1);
        return now.views.get(table).size();
    }

    int view(int table, int i) {
        if (at(table) == null) {
            return NONE;
        }
        List<Integer> rows = top(table);
        return i == NONE ? rows.size() : i < 0 || i >= rows.size() ? NONE : rows.get(i);
    }

    // ---- looks

    int table(int table, int what) {
        Table t = at(table);
        if (t == null || what < 0 || what > 3) {
            return NONE;
        }
        int bytes = 0;
        for (List<String> row : t.rows) {
            bytes += String.join("", row).length();
        }
        return List.of(t.names.size(), t.rows.size(), now.views.get(table).size(), bytes).get(what);
    }

    private List<int[]> proofOf(int table, int column) {
        List<int[]> proof = new ArrayList<>();
        List<String> cells = at(table).cells(column);
        for (int r = 0; r < cells.size(); r++) {
            int before = guess(cells.subList(0, r));
            int after = guess(cells.subList(0, r + 1));
            if (before != after) {
                proof.add(new int[] {r, after});
            }
        }
        return proof;
    }

    int column(int table, int column, int what) {
        if (!has(table, column) || what < 0 || what > 5) {
            return NONE;
        }
        Table t = at(table);
        return List.of(typeOf(t, column), guess(t.cells(column)), t.told.get(column), t.names.get(column).length(),
            proofOf(table, column).size(), Collections.frequency(t.cells(column), "")).get(what);
    }

    int nameAt(int table, int column, int i) {
        return has(table, column) ? at(at(table).names.get(column), i) : NONE;
    }

    private static int at(String s, int i) {
        return i < 0 || i >= s.length() ? NONE : s.charAt(i);
    }

    int find(int table) {
        String s = take();
        return at(table) == null ? NONE : at(table).names.indexOf(s);
    }

    int proof(int table, int column, int i, int what) {
        if (!has(table, column) || what < 0 || what > 1 || i < 0 || i >= proofOf(table, column).size()) {
            return NONE;
        }
        return proofOf(table, column).get(i)[what];
    }

    int against(int table, int column, int type) {
        if (!has(table, column) || type < 0 || type > 5) {
            return NONE;
        }
        List<String> cells = at(table).cells(column);
        for (int r = 0; r < cells.size(); r++) {
            if (join(type, own(cells.get(r))) != type) {
                return r;
            }
        }
        return NONE;
    }

    int cell(int table, int row, int column, int what) {
        if (!has(table, column, row) || what < 0 || what > 2) {
            return NONE;
        }
        String s = text(table, row, column);
        boolean quoted = !plainOrQuoted(s, column, at(table).names.size()).equals(s);
        return what == 0 ? own(s) : what == 1 ? s.length() : quoted ? 1 : 0;
    }

    int cellAt(int table, int row, int column, int i) {
        return has(table, column, row) ? at(text(table, row, column), i) : NONE;
    }

    long value(int table, int row, int column) {
        if (!has(table, column, row)) {
            return NO;
        }
        Comparable<?> v = valueOf(text(table, row, column), typeOf(at(table), column));
        return v == null ? NO : v instanceof Long l ? l : ((String) v).length();
    }

    int compare(int table, int column, int row, int other) {
        if (!has(table, column, row) || !has(table, column, other)) {
            return NONE;
        }
        int sign = order(text(table, row, column), text(table, other, column), typeOf(at(table), column));
        return sign == 0 ? 0 : sign > 0 ? 1 : 2;
    }

    // ---- numbers

    private long sum(int table, int column, List<Integer> rows) {
        int type = typeOf(at(table), column);
        if (type < 1 || type > 3) {
            return NO;
        }
        long sum = 0;
        for (int r : rows) {
            Long v = (Long) valueOf(text(table, r, column), type);
            sum += v == null ? 0 : v;
        }
        return sum;
    }

    long over(int table, int column, int what) {
        if (!has(table, column)) {
            return NO;
        }
        List<Integer> up = sorted(table, column, false);
        up.removeIf(r -> text(table, r, column).isEmpty());
        List<Integer> down = sorted(table, column, true);
        down.removeIf(r -> text(table, r, column).isEmpty());
        if (what == 0) {
            return up.size();
        }
        if (what == 1) {
            return sum(table, column, up);
        }
        if (up.isEmpty() || what < 0 || what > 6) {
            return NO;
        }
        List<Integer> mode = List.of();
        Map<Object, List<Integer>> groups = groups(table, column);
        groups.remove(null);
        for (List<Integer> group : groups.values()) {
            mode = group.size() > mode.size() ? group : mode;
        }
        return List.of(up.get(0), down.get(0), up.get(up.size() / 2), mode.get(0), mode.size()).get(what - 2);
    }

    long group(int table, int column, int i, int what, int by) {
        if (!has(table, column)) {
            return NO;
        }
        List<List<Integer>> groups = new ArrayList<>(groups(table, column).values());
        if (i == NONE) {
            return groups.size();
        }
        if (i < 0 || i >= groups.size() || what < 0 || what > 2 || (what == 2 && !has(table, by))) {
            return NO;
        }
        List<Integer> rows = groups.get(i);
        return what == 0 ? rows.get(0) : what == 1 ? rows.size() : sum(table, by, rows);
    }

    private boolean match(int a, int columnA, int row, int b, int columnB, int other) {
        int typeA = typeOf(at(a), columnA);
        int typeB = typeOf(at(b), columnB);
        Object one = valueOf(text(a, row, columnA), Math.max(typeA, typeB));
        Object two = valueOf(text(b, other, columnB), Math.max(typeA, typeB));
        return one != null && one.equals(two);
    }

    int matches(int a, int columnA, int b, int columnB) {
        if (!has(a, columnA) || !has(b, columnB)) {
            return NONE;
        }
        int typeA = typeOf(at(a), columnA);
        int typeB = typeOf(at(b), columnB);
        if (typeA != typeB && !(typeA + typeB == 5 && typeA * typeB == 6)) {
            return NONE;
        }
        int pairs = 0;
        for (int r : top(a)) {
            for (int q : top(b)) {
                pairs += match(a, columnA, r, b, columnB, q) ? 1 : 0;
            }
        }
        return pairs;
    }

    int differ(int a, int b) {
        if (at(a) == null || at(b) == null) {
            return NONE;
        }
        Map<Integer, String> cells = new HashMap<>();
        int unlike = 0;
        for (int r = 0; r < at(a).rows.size(); r++) {
            for (int c = 0; c < at(a).names.size(); c++) {
                cells.put(100 * r + c, text(a, r, c));
            }
        }
        for (int r = 0; r < at(b).rows.size(); r++) {
            for (int c = 0; c < at(b).names.size(); c++) {
                unlike += text(b, r, c).equals(cells.remove(100 * r + c)) ? 0 : 1;
            }
        }
        return unlike + cells.size();
    }

    // ---- writing

    private String plainOrQuoted(String s, int column, int width) {
        String sep = "" + (char) now.dialect[0];
        String quote = "" + (char) now.dialect[1];
        boolean quoted = s.contains(sep) || s.contains(quote) || s.contains("\n");
        quoted |= now.dialect[3] == 1 && (s.startsWith(" ") || s.endsWith(" "));
        quoted |= now.dialect[5] != 0 && column == 0 && s.startsWith("" + (char) now.dialect[5]);
        quoted |= s.isEmpty() && width == 1;
        return quoted ? quote + s.replace(quote, quote + quote) + quote : s;
    }

    int write(int table) {
        if (at(table) == null) {
            return NONE;
        }
        String sep = "" + (char) now.dialect[0];
        List<String> lines = new ArrayList<>();
        if (now.dialect[2] == 1) {
            lines.add(String.join(sep, at(table).names) + "\n");
        }
        for (int r : top(table)) {
            List<String> fields = new ArrayList<>();
            for (int c = 0; c < at(table).names.size(); c++) {
                fields.add(plainOrQuoted(text(table, r, c), c, at(table).names.size()));
            }
            lines.add(String.join(sep, fields) + "\n");
        }
        written = "";
        for (String line : lines) {
            if (written.length() + line.length() > 6000) {
                break;
            }
            written += line;
        }
        return written.length();
    }

    int sign(int i) {
        return at(written, i);
    }

    // ---- the image and the whole

    boolean image(boolean taken) {
        if (taken) {
            image = now.copy();
            return true;
        }
        if (image == null) {
            return false;
        }
        now = image.copy();
        acts.clear();
        return true;
    }

    int look(int what) {
        int set = 0;
        int cells = 0;
        for (int t = 0; t < 3; t++) {
            if (at(t) != null) {
                set += 1 << t;
                cells += at(t).rows.size() * at(t).names.size();
            }
        }
        if (what >= 0 && what < 6) {
            return now.dialect[what];
        }
        return what < 0 || what > 10 ? NONE : List.of(set, acts.size(), tape.length(), cells, faults).get(what - 6);
    }
}
