import java.util.Arrays;

/** Three tables read from texts, typed by their cells, seen through views, changed, undone, written again. */
public final class TypedTables {
    public static final int NONE = -1;

    private static final long NO_NUMBER = NONE - 99999999999999L;

    private static final int TABLES = 3;
    private static final int MOST_COLUMNS = 8;
    private static final int MOST_ROWS = 40;
    private static final int MOST_CELL = 20;
    private static final int MOST_NAME = 12;
    private static final int MOST_TAPE = 800;
    private static final int MOST_VIEWS = 6;
    private static final int MOST_ACTS = 6;
    private static final int MOST_WRITTEN = 6000;

    private static final int SEPARATOR = 0;
    private static final int QUOTE = 1;
    private static final int HEADER = 2;
    private static final int TRIM = 3;
    private static final int RAGGED = 4;
    private static final int COMMENT = 5;
    private static final int DIALECT_PARTS = 6;

    private static final int RAGGED_SHORT = 1;
    private static final int RAGGED_LONG = 2;

    private static final int EMPTY = 0;
    private static final int BOOL = 1;
    private static final int INT = 2;
    private static final int FIXED = 3;
    private static final int DATE = 4;
    private static final int TEXT = 5;

    private static final int FAULT_BYTE = 1;
    private static final int FAULT_STRAY_QUOTE = 2;
    private static final int FAULT_BEHIND_QUOTE = 3;
    private static final int FAULT_OPEN_QUOTE = 4;
    private static final int FAULT_LONG_CELL = 5;
    private static final int FAULT_TOO_MANY = 6;
    private static final int FAULT_NAME = 7;
    private static final int FAULT_WIDTH = 8;
    private static final int FAULT_NO_LINE = 9;

    private static final int HOW_EQUAL = 0;
    private static final int HOW_UNEQUAL = 1;
    private static final int HOW_LESS = 2;
    private static final int HOW_AT_MOST = 3;
    private static final int HOW_GREATER = 4;
    private static final int HOW_AT_LEAST = 5;
    private static final int HOW_HOLDS = 6;
    private static final int HOW_HAS_NONE = 7;

    private static final int LINE_END = 10;
    private static final int BLANK = 32;
    private static final int LAST_SIGN = 126;
    private static final long FIXED_ONE = 10000L;

    private final State now;
    private final Tape tape;
    private final Fault latest;
    private final Reader reader;
    private final Writer writer;
    /** THE IMAGE, if one was taken. */
    private final State kept;
    private boolean hasImage;

    public TypedTables() {
        now = new State();
        tape = new Tape();
        latest = new Fault();
        reader = new Reader(tape, now.dialect, latest);
        writer = new Writer(now.dialect);
        kept = new State();
        hasImage = false;
    }

    public boolean dialect(int what, int v) {
        if (!canBeDialect(what, v)) {
            return false;
        }
        now.dialect[what] = v;
        return true;
    }

    public int feed(int a, int b, int c, int d, int e) {
        if (!tape.hasRoom(5)) {
            return NONE;
        }
        tape.add(a);
        tape.add(b);
        tape.add(c);
        tape.add(d);
        tape.add(e);
        return tape.length;
    }

    public boolean end(int n) {
        if (n < 0 || n > tape.length) {
            return false;
        }
        tape.length = n;
        return true;
    }

    public int read(int table) {
        boolean fine = State.isPlace(table) && reader.readLines(null, MOST_ROWS);
        tape.length = 0;
        Sheet sheet = fine ? reader.newSheet() : null;
        if (sheet == null) {
            return NONE;
        }
        now.act(table, sheet);
        return sheet.rows;
    }

    public int fault(int what) {
        switch (what) {
            case 0: return latest.kind;
            case 1: return latest.place;
            case 2: return latest.line;
            case 3: return latest.column;
            case 4: return latest.cause;
            default: return NONE;
        }
    }

    public boolean put(int table, int row, int column) {
        Cell cell = tape.takeCell();
        Sheet sheet = now.sheetOf(table);
        if (cell == null || sheet == null || !sheet.hasCell(row, column)) {
            return false;
        }
        if (!sheet.columns[column].takes(cell)) {
            return false;
        }
        now.act(table, sheet.withCell(row, column, cell));
        return true;
    }

    public int row(int table) {
        Sheet sheet = now.sheetOf(table);
        boolean fine = false;
        if (sheet != null && sheet.rows >= MOST_ROWS) {
            latest.tell(FAULT_TOO_MANY, 0, NONE, tape);
        } else if (sheet != null) {
            fine = reader.readLines(sheet.columns, 1);
        }
        tape.length = 0;
        if (sheet == null || !fine || !sheet.takesRow(reader.cells)) {
            return NONE;
        }
        now.act(table, sheet.withRow(reader.cells));
        return sheet.rows + 1;
    }

    public int out(int table, int row) {
        Sheet sheet = now.sheetOf(table);
        if (sheet == null || !sheet.hasRow(row)) {
            return NONE;
        }
        now.act(table, sheet.withoutRow(row));
        return sheet.rows - 1;
    }

    public boolean name(int table, int column) {
        byte[] told = tape.takeName();
        Sheet sheet = now.sheetOf(table);
        if (told == null || sheet == null || !sheet.hasColumn(column)) {
            return false;
        }
        int holder = Column.indexOf(sheet.columns, sheet.columns.length, told);
        if (holder != NONE && holder != column) {
            return false;
        }
        now.act(table, sheet.withColumn(column, new Column(told, sheet.columns[column].told)));
        return true;
    }

    public int away(int table, int column) {
        Sheet sheet = now.sheetOf(table);
        if (sheet == null || !sheet.hasColumn(column) || sheet.columns.length == 1) {
            return NONE;
        }
        now.act(table, sheet.withoutColumn(column));
        return sheet.columns.length - 1;
    }

    public boolean type(int table, int column, int type) {
        Sheet sheet = now.sheetOf(table);
        if (sheet == null || !sheet.hasColumn(column) || !canBeTold(sheet, column, type)) {
            return false;
        }
        now.act(table, sheet.withColumn(column, new Column(sheet.columns[column].name, type)));
        return true;
    }

    public int joined(int a, int columnA, int b, int columnB, int c) {
        Strip left = now.stripOf(a, columnA);
        Strip right = now.stripOf(b, columnB);
        if (left == null || right == null || !State.isPlace(c) || c == a || c == b) {
            return NONE;
        }
        Sheet sheet = new Joint(left, right).newSheet();
        if (sheet == null) {
            return NONE;
        }
        now.act(c, sheet);
        return sheet.rows;
    }

    public int undo() {
        if (now.acts == 0) {
            return NONE;
        }
        now.undoAct();
        return now.acts;
    }

    public int narrow(int table, int column, int how) {
        boolean hasBytes = tape.length > 0;
        Cell probe = tape.takeCell();
        Strip strip = now.stripOf(table, column);
        if (strip == null || !now.canStack(table) || how < HOW_EQUAL || how > HOW_HAS_NONE) {
            return NONE;
        }
        if (how == HOW_HOLDS && !hasBytes) {
            return NONE;
        }
        if (how < HOW_HOLDS && !(hasBytes && probe != null && holds(strip.type, probe.kind))) {
            return NONE;
        }
        return now.stack(table, strip.narrowed(how, probe));
    }

    public int order(int table, int column, boolean down) {
        Strip strip = now.stripOf(table, column);
        if (strip == null || !now.canStack(table)) {
            return NONE;
        }
        return now.stack(table, strip.ordered(down));
    }

    public int cut(int table, int from, int n) {
        View top = now.topOf(table);
        if (top == null || !now.canStack(table) || from < 0 || n < 0) {
            return NONE;
        }
        int begin = Math.min(from, top.rows.length);
        int size = Math.min(n, top.rows.length - begin);
        return now.stack(table, Arrays.copyOfRange(top.rows, begin, begin + size));
    }

    public int unlike(int table, int column) {
        Strip strip = now.stripOf(table, column);
        if (strip == null || !now.canStack(table)) {
            return NONE;
        }
        return now.stack(table, strip.firsts());
    }

    public int back(int table) {
        View top = now.topOf(table);
        if (top == null || top.under == null) {
            return NONE;
        }
        now.setTop(table, top.under);
        return top.under.depth;
    }

    public int view(int table, int i) {
        View top = now.topOf(table);
        if (top == null) {
            return NONE;
        }
        if (i == NONE) {
            return top.rows.length;
        }
        return i < 0 || i >= top.rows.length ? NONE : top.rows[i];
    }

    public int table(int table, int what) {
        Sheet sheet = now.sheetOf(table);
        View top = now.topOf(table);
        if (sheet == null || top == null) {
            return NONE;
        }
        switch (what) {
            case 0: return sheet.columns.length;
            case 1: return sheet.rows;
            case 2: return top.depth;
            case 3: return sheet.countBytes();
            default: return NONE;
        }
    }

    public int column(int table, int column, int what) {
        Sheet sheet = now.sheetOf(table);
        if (sheet == null || !sheet.hasColumn(column)) {
            return NONE;
        }
        switch (what) {
            case 0: return sheet.typeOf(column);
            case 1: return sheet.guessTo(column, sheet.rows);
            case 2: return sheet.columns[column].told;
            case 3: return sheet.columns[column].name.length;
            case 4: return sheet.proofSize(column);
            case 5: return sheet.countEmpty(column);
            default: return NONE;
        }
    }

    public int nameAt(int table, int column, int i) {
        Sheet sheet = now.sheetOf(table);
        if (sheet == null || !sheet.hasColumn(column)) {
            return NONE;
        }
        byte[] bytes = sheet.columns[column].name;
        return i < 0 || i >= bytes.length ? NONE : bytes[i];
    }

    public int find(int table) {
        byte[] told = tape.takeName();
        Sheet sheet = now.sheetOf(table);
        if (told == null || sheet == null) {
            return NONE;
        }
        return Column.indexOf(sheet.columns, sheet.columns.length, told);
    }

    public int proof(int table, int column, int i, int what) {
        Sheet sheet = now.sheetOf(table);
        if (sheet == null || !sheet.hasColumn(column)) {
            return NONE;
        }
        int row = sheet.proofRow(column, i);
        if (row == NONE || what < 0 || what > 1) {
            return NONE;
        }
        return what == 0 ? row : sheet.guessTo(column, row + 1);
    }

    public int against(int table, int column, int type) {
        Sheet sheet = now.sheetOf(table);
        if (sheet == null || !sheet.hasColumn(column) || type < EMPTY || type > TEXT) {
            return NONE;
        }
        return sheet.firstNotHeld(column, type);
    }

    public int cell(int table, int row, int column, int what) {
        Sheet sheet = now.sheetOf(table);
        if (sheet == null || !sheet.hasCell(row, column)) {
            return NONE;
        }
        Cell cell = sheet.cellOf(row, column);
        switch (what) {
            case 0: return cell.kind;
            case 1: return cell.bytes.length;
            case 2: return writer.needsQuotes(cell, column, sheet.columns.length) ? 1 : 0;
            default: return NONE;
        }
    }

    public int cellAt(int table, int row, int column, int i) {
        Sheet sheet = now.sheetOf(table);
        if (sheet == null || !sheet.hasCell(row, column)) {
            return NONE;
        }
        byte[] bytes = sheet.cellOf(row, column).bytes;
        return i < 0 || i >= bytes.length ? NONE : bytes[i];
    }

    public long value(int table, int row, int column) {
        Sheet sheet = now.sheetOf(table);
        if (sheet == null || !sheet.hasCell(row, column)) {
            return NO_NUMBER;
        }
        Cell cell = sheet.cellOf(row, column);
        return cell.isEmpty() ? NO_NUMBER : cell.numberAs(sheet.typeOf(column));
    }

    public int compare(int table, int column, int row, int other) {
        Sheet sheet = now.sheetOf(table);
        if (sheet == null || !sheet.hasCell(row, column) || !sheet.hasRow(other)) {
            return NONE;
        }
        int sign = sheet.cellOf(row, column).comparedTo(sheet.cellOf(other, column), sheet.typeOf(column));
        return sign == 0 ? 0 : sign > 0 ? 1 : 2;
    }

    public long over(int table, int column, int what) {
        Strip all = now.stripOf(table, column);
        if (all == null) {
            return NO_NUMBER;
        }
        Strip strip = all.filled();
        if (what == 0) {
            return strip.rows.length;
        }
        if (what == 1) {
            return strip.sum();
        }
        if (strip.rows.length == 0) {
            return NO_NUMBER;
        }
        switch (what) {
            case 2: return strip.leastRow();
            case 3: return strip.greatestRow();
            case 4: return strip.medianRow();
            case 5: return strip.modeRow();
            case 6: return strip.countLike(strip.modeRow());
            default: return NO_NUMBER;
        }
    }

    public long group(int table, int column, int i, int what, int by) {
        Strip strip = now.stripOf(table, column);
        if (strip == null) {
            return NO_NUMBER;
        }
        int[] firsts = strip.firsts();
        if (i == NONE) {
            return firsts.length;
        }
        if (i < 0 || i >= firsts.length) {
            return NO_NUMBER;
        }
        switch (what) {
            case 0: return firsts[i];
            case 1: return strip.countLike(firsts[i]);
            case 2: return strip.sumLike(firsts[i], by);
            default: return NO_NUMBER;
        }
    }

    public int matches(int a, int columnA, int b, int columnB) {
        Strip left = now.stripOf(a, columnA);
        Strip right = now.stripOf(b, columnB);
        if (left == null || right == null) {
            return NONE;
        }
        Joint joint = new Joint(left, right);
        return joint.type == NONE ? NONE : joint.countPairs();
    }

    public int differ(int a, int b) {
        Sheet one = now.sheetOf(a);
        Sheet other = now.sheetOf(b);
        return one == null || other == null ? NONE : one.countUnlike(other);
    }

    public int write(int table) {
        Sheet sheet = now.sheetOf(table);
        View top = now.topOf(table);
        if (sheet == null || top == null) {
            return NONE;
        }
        writer.writeSheet(sheet, top.rows);
        return writer.length;
    }

    public int sign(int i) {
        return i < 0 || i >= writer.length ? NONE : writer.bytes[i];
    }

    public boolean image(boolean taken) {
        if (taken) {
            kept.copyFrom(now);
            hasImage = true;
        } else if (hasImage) {
            now.copyFrom(kept);
        }
        return hasImage;
    }

    public int look(int what) {
        if (what >= 0 && what < DIALECT_PARTS) {
            return now.dialect[what];
        }
        switch (what) {
            case 6: return now.tablesThere();
            case 7: return now.acts;
            case 8: return tape.length;
            case 9: return now.countCells();
            case 10: return latest.readings;
            default: return NONE;
        }
    }

    private static boolean canBeDialect(int what, int v) {
        switch (what) {
            case SEPARATOR: return v == ',' || v == ';' || v == '|' || v == 9;
            case QUOTE: return v == '"' || v == '\'';
            case HEADER: return v == 0 || v == 1;
            case TRIM: return v == 0 || v == 1;
            case RAGGED: return v >= 0 && v <= (RAGGED_SHORT | RAGGED_LONG);
            case COMMENT: return v == 0 || v == '#' || v == '%' || v == '*';
            default: return false;
        }
    }

    private static boolean canBeTold(Sheet sheet, int column, int type) {
        if (type == NONE) {
            return sheet.columns[column].told != NONE;
        }
        return type >= BOOL && type <= TEXT && sheet.firstNotHeld(column, type) == NONE;
    }

    private static int join(int one, int other) {
        if (one == other || other == EMPTY) {
            return one;
        }
        if (one == EMPTY) {
            return other;
        }
        return isWholeOrFixed(one) && isWholeOrFixed(other) ? FIXED : TEXT;
    }

    private static boolean holds(int type, int kind) {
        return join(type, kind) == type;
    }

    /** By which TYPE the VALUES of two TYPES are compared; NONE if they can't be. */
    private static int common(int one, int other) {
        if (one == other) {
            return one;
        }
        return isWholeOrFixed(one) && isWholeOrFixed(other) ? FIXED : NONE;
    }

    private static boolean isWholeOrFixed(int type) {
        return type == INT || type == FIXED;
    }

    /** A CELL never changes, so TABLES, undone ACTS and THE IMAGE share it. */
    private static final class Cell {
        private static final int[] DAYS_AHEAD = {0, 31, 59, 90, 120, 151, 181, 212, 243, 273, 304, 334};
        private static final int[] MONTH_DAYS = {31, 28, 31, 30, 31, 30, 31, 31, 30, 31, 30, 31};

        final byte[] bytes;
        final int kind;
        private final long number;

        Cell(byte[] bytes) {
            this.bytes = bytes;
            kind = kindOf(bytes);
            number = numberOf(bytes, kind);
        }

        boolean isEmpty() {
            return bytes.length == 0;
        }

        /** The VALUE by a TYPE that HOLDS this CELL. */
        long numberAs(int type) {
            if (type == TEXT) {
                return bytes.length;
            }
            return type == FIXED && kind == INT ? number * FIXED_ONE : number;
        }

        /** Below 0 if this VALUE is less than another one, 0 if alike, else above; no bytes are less than all. */
        int comparedTo(Cell other, int type) {
            if (isEmpty() || other.isEmpty()) {
                return Integer.compare(bytes.length, other.bytes.length);
            }
            if (type == TEXT) {
                return bytesComparedTo(other);
            }
            return Long.compare(numberAs(type), other.numberAs(type));
        }

        private int bytesComparedTo(Cell other) {
            int most = Math.min(bytes.length, other.bytes.length);
            for (int i = 0; i < most; i++) {
                if (bytes[i] != other.bytes[i]) {
                    return Integer.compare(bytes[i], other.bytes[i]);
                }
            }
            return Integer.compare(bytes.length, other.bytes.length);
        }

        boolean hasBytesOf(Cell other) {
            return bytesComparedTo(other) == 0;
        }

        boolean holdsBytesOf(Cell part) {
            int last = bytes.length - part.bytes.length;
            for (int i = 0; i <= last; i++) {
                if (holdsAt(part, i)) {
                    return true;
                }
            }
            return false;
        }

        private boolean holdsAt(Cell part, int place) {
            for (int i = 0; i < part.bytes.length; i++) {
                if (bytes[place + i] != part.bytes[i]) {
                    return false;
                }
            }
            return true;
        }

        private static int kindOf(byte[] bytes) {
            if (bytes.length == 0) {
                return EMPTY;
            }
            if (isWord(bytes, "yes") || isWord(bytes, "no") || isWord(bytes, "true") || isWord(bytes, "false")) {
                return BOOL;
            }
            return isDate(bytes) ? DATE : numeralKind(bytes);
        }

        private static long numberOf(byte[] bytes, int kind) {
            switch (kind) {
                case BOOL: return bytes[0] == 'y' || bytes[0] == 't' ? 1 : 0;
                case INT: return numeral(bytes, 0);
                case FIXED: return numeral(bytes, 4);
                case DATE: return days(bytes);
                default: return bytes.length;
            }
        }

        private static boolean isWord(byte[] bytes, String word) {
            if (bytes.length != word.length()) {
                return false;
            }
            for (int i = 0; i < bytes.length; i++) {
                if (bytes[i] != word.charAt(i)) {
                    return false;
                }
            }
            return true;
        }

        static boolean isDigit(int b) {
            return b >= '0' && b <= '9';
        }

        /** INT, FIXED, or TEXT if the bytes are no number. */
        private static int numeralKind(byte[] bytes) {
            int begin = bytes[0] == '-' ? 1 : 0;
            int point = bytes.length;
            for (int i = begin; i < bytes.length; i++) {
                if (bytes[i] == '.' && point == bytes.length) {
                    point = i;
                } else if (!isDigit(bytes[i])) {
                    return TEXT;
                }
            }
            int whole = point - begin;
            if (whole < 1 || whole > 9 || (whole > 1 && bytes[begin] == '0')) {
                return TEXT;
            }
            if (point == bytes.length) {
                return begin == 1 && bytes[begin] == '0' ? TEXT : INT;
            }
            int part = bytes.length - point - 1;
            return part >= 1 && part <= 4 ? FIXED : TEXT;
        }

        /** The number that the digits tell, with so many places behind the point. */
        private static long numeral(byte[] bytes, int places) {
            long number = 0;
            int behind = 0;
            boolean pointSeen = false;
            for (int i = 0; i < bytes.length; i++) {
                if (isDigit(bytes[i])) {
                    number = number * 10 + (bytes[i] - '0');
                    behind += pointSeen ? 1 : 0;
                } else {
                    pointSeen = bytes[i] == '.';
                }
            }
            for (int i = behind; i < places; i++) {
                number *= 10;
            }
            return bytes[0] == '-' ? -number : number;
        }

        private static boolean isDate(byte[] bytes) {
            if (bytes.length != 10 || bytes[4] != '-' || bytes[7] != '-') {
                return false;
            }
            int year = digits(bytes, 0, 4);
            int month = digits(bytes, 5, 7);
            int day = digits(bytes, 8, 10);
            if (year < 1600 || month < 1 || month > 12 || day < 1) {
                return false;
            }
            int most = MONTH_DAYS[month - 1] + (month == 2 && isLeap(year) ? 1 : 0);
            return day <= most;
        }

        /** The number from a place up to another; NONE if one of the bytes is no digit. */
        private static int digits(byte[] bytes, int from, int to) {
            int number = 0;
            for (int i = from; i < to; i++) {
                int digit = bytes[i] - '0';
                if (digit < 0 || digit > 9) {
                    return NONE;
                }
                number = number * 10 + digit;
            }
            return number;
        }

        private static boolean isLeap(int year) {
            return year % 4 == 0 && (year % 100 != 0 || year % 400 == 0);
        }

        private static int leapYearsAhead(int year) {
            int last = year - 1;
            return last / 4 - last / 100 + last / 400;
        }

        private static long days(byte[] bytes) {
            int year = digits(bytes, 0, 4);
            int month = digits(bytes, 5, 7);
            int day = digits(bytes, 8, 10);
            int sum = 365 * (year - 1970) + leapYearsAhead(year) - leapYearsAhead(1970);
            sum += DAYS_AHEAD[month - 1] + (month > 2 && isLeap(year) ? 1 : 0);
            return sum + day - 1;
        }
    }

    /** The NAME of a COLUMN and its TOLD TYPE (NONE without); never changed either. */
    private static final class Column {
        final byte[] name;
        final int told;

        Column(byte[] name, int told) {
            this.name = name;
            this.told = told;
        }

        boolean takes(Cell cell) {
            return told == NONE || holds(told, cell.kind);
        }

        private boolean isNamed(byte[] bytes) {
            if (bytes.length != name.length) {
                return false;
            }
            for (int i = 0; i < name.length; i++) {
                if (bytes[i] != name[i]) {
                    return false;
                }
            }
            return true;
        }

        static boolean canBeName(byte[] bytes) {
            if (bytes.length < 1 || bytes.length > MOST_NAME) {
                return false;
            }
            for (int i = 0; i < bytes.length; i++) {
                if (!canBeInName(bytes[i])) {
                    return false;
                }
            }
            return true;
        }

        private static boolean canBeInName(int b) {
            return (b >= 'a' && b <= 'z') || (b >= 'A' && b <= 'Z') || Cell.isDigit(b) || b == '_';
        }

        /** Which of the first n COLUMNS has a NAME; NONE if none has. */
        static int indexOf(Column[] columns, int n, byte[] name) {
            for (int i = 0; i < n; i++) {
                if (columns[i].isNamed(name)) {
                    return i;
                }
            }
            return NONE;
        }

        /** c0, c1, .. */
        static Column[] numbered(int n) {
            Column[] columns = new Column[n];
            for (int i = 0; i < n; i++) {
                byte[] name = {'c', (byte) ('0' + i)};
                columns[i] = new Column(name, NONE);
            }
            return columns;
        }
    }

    /** What a TABLE is made of. Each change makes another sheet, so undone ACTS and THE IMAGE just keep the old one. */
    private static final class Sheet {
        final Column[] columns;
        /** ROW by ROW. */
        final Cell[] cells;
        final int rows;
        /** The lowest VIEW. */
        final View all;

        Sheet(Column[] columns, Cell[] cells, int rows) {
            this.columns = columns;
            this.cells = cells;
            this.rows = rows;
            int[] places = new int[rows];
            for (int r = 0; r < rows; r++) {
                places[r] = r;
            }
            all = new View(places, null);
        }

        boolean hasColumn(int column) {
            return column >= 0 && column < columns.length;
        }

        boolean hasRow(int row) {
            return row >= 0 && row < rows;
        }

        boolean hasCell(int row, int column) {
            return hasRow(row) && hasColumn(column);
        }

        Cell cellOf(int row, int column) {
            return cells[row * columns.length + column];
        }

        int typeOf(int column) {
            int told = columns[column].told;
            return told == NONE ? guessTo(column, rows) : told;
        }

        /** JOIN of the CELLS of the first n ROWS. */
        int guessTo(int column, int n) {
            int type = EMPTY;
            for (int r = 0; r < n; r++) {
                type = join(type, cellOf(r, column).kind);
            }
            return type;
        }

        /** The i-th ROW of a PROOF; NONE if there is none such. */
        int proofRow(int column, int i) {
            int type = EMPTY;
            int passed = 0;
            for (int r = 0; r < rows; r++) {
                int next = join(type, cellOf(r, column).kind);
                if (next != type) {
                    if (passed == i) {
                        return r;
                    }
                    passed++;
                }
                type = next;
            }
            return NONE;
        }

        int proofSize(int column) {
            int size = 0;
            while (size < rows && proofRow(column, size) != NONE) {
                size++;
            }
            return size;
        }

        int firstNotHeld(int column, int type) {
            for (int r = 0; r < rows; r++) {
                if (!holds(type, cellOf(r, column).kind)) {
                    return r;
                }
            }
            return NONE;
        }

        int countEmpty(int column) {
            int sum = 0;
            for (int r = 0; r < rows; r++) {
                sum += cellOf(r, column).isEmpty() ? 1 : 0;
            }
            return sum;
        }

        int countBytes() {
            int sum = 0;
            for (int i = 0; i < cells.length; i++) {
                sum += cells[i].bytes.length;
            }
            return sum;
        }

        int countUnlike(Sheet other) {
            int height = Math.max(rows, other.rows);
            int width = Math.max(columns.length, other.columns.length);
            int sum = 0;
            for (int r = 0; r < height; r++) {
                for (int c = 0; c < width; c++) {
                    sum += isUnlikeAt(other, r, c) ? 1 : 0;
                }
            }
            return sum;
        }

        private boolean isUnlikeAt(Sheet other, int row, int column) {
            boolean here = hasCell(row, column);
            boolean there = other.hasCell(row, column);
            if (here && there) {
                return !cellOf(row, column).hasBytesOf(other.cellOf(row, column));
            }
            return here || there;
        }

        /** Whether TOLD TYPES HOLD the CELLS of a new ROW, the first of those given. */
        boolean takesRow(Cell[] line) {
            for (int c = 0; c < columns.length; c++) {
                if (!columns[c].takes(line[c])) {
                    return false;
                }
            }
            return true;
        }

        Sheet withCell(int row, int column, Cell cell) {
            Cell[] changed = new Cell[cells.length];
            for (int i = 0; i < cells.length; i++) {
                changed[i] = cells[i];
            }
            changed[row * columns.length + column] = cell;
            return new Sheet(columns, changed, rows);
        }

        Sheet withRow(Cell[] line) {
            Cell[] changed = new Cell[cells.length + columns.length];
            for (int i = 0; i < cells.length; i++) {
                changed[i] = cells[i];
            }
            for (int c = 0; c < columns.length; c++) {
                changed[cells.length + c] = line[c];
            }
            return new Sheet(columns, changed, rows + 1);
        }

        Sheet withoutRow(int row) {
            Cell[] changed = new Cell[cells.length - columns.length];
            int begin = row * columns.length;
            for (int i = 0; i < changed.length; i++) {
                changed[i] = cells[i < begin ? i : i + columns.length];
            }
            return new Sheet(columns, changed, rows - 1);
        }

        Sheet withColumn(int column, Column told) {
            Column[] changed = new Column[columns.length];
            for (int c = 0; c < columns.length; c++) {
                changed[c] = c == column ? told : columns[c];
            }
            return new Sheet(changed, cells, rows);
        }

        Sheet withoutColumn(int column) {
            int width = columns.length - 1;
            Column[] left = new Column[width];
            Cell[] changed = new Cell[rows * width];
            for (int c = 0; c < width; c++) {
                int from = c < column ? c : c + 1;
                left[c] = columns[from];
                for (int r = 0; r < rows; r++) {
                    changed[r * width + c] = cellOf(r, from);
                }
            }
            return new Sheet(left, changed, rows);
        }
    }

    /** ROWS in an order, laid on another VIEW; never changed, so THE IMAGE shares it. */
    private static final class View {
        final int[] rows;
        final View under;
        final int depth;

        View(int[] rows, View under) {
            this.rows = rows;
            this.under = under;
            depth = under == null ? 0 : under.depth + 1;
        }
    }

    /** The CELLS of one COLUMN, in the order of some ROWS. */
    private static final class Strip {
        final Sheet sheet;
        final int column;
        final int[] rows;
        final int type;

        Strip(Sheet sheet, int column, int[] rows) {
            this.sheet = sheet;
            this.column = column;
            this.rows = rows;
            type = sheet.typeOf(column);
        }

        private Cell cellOf(int row) {
            return sheet.cellOf(row, column);
        }

        private boolean areLike(int row, int other) {
            return cellOf(row).comparedTo(cellOf(other), type) == 0;
        }

        /** The ROWS whose CELL is so; without a probe (it could be no CELL) none HOLDS it. */
        int[] narrowed(int how, Cell probe) {
            int[] found = new int[rows.length];
            int n = 0;
            for (int i = 0; i < rows.length; i++) {
                if (fits(cellOf(rows[i]), how, probe)) {
                    found[n] = rows[i];
                    n++;
                }
            }
            return Arrays.copyOf(found, n);
        }

        private boolean fits(Cell cell, int how, Cell probe) {
            if (how == HOW_HAS_NONE) {
                return cell.isEmpty();
            }
            if (cell.isEmpty() || probe == null) {
                return false;
            }
            return how == HOW_HOLDS ? cell.holdsBytesOf(probe) : isSo(cell.comparedTo(probe, type), how);
        }

        private static boolean isSo(int sign, int how) {
            switch (how) {
                case HOW_EQUAL: return sign == 0;
                case HOW_UNEQUAL: return sign != 0;
                case HOW_LESS: return sign < 0;
                case HOW_AT_MOST: return sign <= 0;
                case HOW_GREATER: return sign > 0;
                case HOW_AT_LEAST: return sign >= 0;
                default: return false;
            }
        }

        int[] ordered(boolean down) {
            int[] sorted = Arrays.copyOf(rows, rows.length);
            for (int i = 1; i < sorted.length; i++) {
                int row = sorted[i];
                int place = i;
                while (place > 0 && comesAhead(cellOf(row), cellOf(sorted[place - 1]), down)) {
                    sorted[place] = sorted[place - 1];
                    place--;
                }
                sorted[place] = row;
            }
            return sorted;
        }

        private boolean comesAhead(Cell one, Cell other, boolean down) {
            if (one.isEmpty() || other.isEmpty()) {
                return one.isEmpty() && !other.isEmpty();
            }
            int sign = one.comparedTo(other, type);
            return down ? sign > 0 : sign < 0;
        }

        /** The first ROW of each VALUE. */
        int[] firsts() {
            int[] found = new int[rows.length];
            int n = 0;
            for (int i = 0; i < rows.length; i++) {
                if (!isLikeOneOf(rows[i], found, n)) {
                    found[n] = rows[i];
                    n++;
                }
            }
            return Arrays.copyOf(found, n);
        }

        private boolean isLikeOneOf(int row, int[] others, int n) {
            for (int i = 0; i < n; i++) {
                if (areLike(row, others[i])) {
                    return true;
                }
            }
            return false;
        }

        /** The CELLS that have bytes. */
        Strip filled() {
            int[] found = new int[rows.length];
            int n = 0;
            for (int i = 0; i < rows.length; i++) {
                if (!cellOf(rows[i]).isEmpty()) {
                    found[n] = rows[i];
                    n++;
                }
            }
            return new Strip(sheet, column, Arrays.copyOf(found, n));
        }

        private int[] rowsLike(int row) {
            int[] found = new int[rows.length];
            int n = 0;
            for (int i = 0; i < rows.length; i++) {
                if (areLike(rows[i], row)) {
                    found[n] = rows[i];
                    n++;
                }
            }
            return Arrays.copyOf(found, n);
        }

        long sum() {
            if (type != BOOL && type != INT && type != FIXED) {
                return NO_NUMBER;
            }
            long sum = 0;
            for (int i = 0; i < rows.length; i++) {
                Cell cell = cellOf(rows[i]);
                sum += cell.isEmpty() ? 0 : cell.numberAs(type);
            }
            return sum;
        }

        /** SUM of another COLUMN over the ROWS that are like one. */
        long sumLike(int row, int by) {
            return sheet.hasColumn(by) ? new Strip(sheet, by, rowsLike(row)).sum() : NO_NUMBER;
        }

        int leastRow() {
            return extremeRow(false);
        }

        int greatestRow() {
            return extremeRow(true);
        }

        private int extremeRow(boolean greatest) {
            int best = NONE;
            for (int i = 0; i < rows.length; i++) {
                if (best == NONE || comesAhead(cellOf(rows[i]), cellOf(best), greatest)) {
                    best = rows[i];
                }
            }
            return best;
        }

        int medianRow() {
            return rows.length == 0 ? NONE : ordered(false)[rows.length / 2];
        }

        int modeRow() {
            int best = NONE;
            int most = 0;
            for (int i = 0; i < rows.length; i++) {
                int like = countLike(rows[i]);
                if (like > most) {
                    best = rows[i];
                    most = like;
                }
            }
            return best;
        }

        int countLike(int row) {
            int sum = 0;
            for (int i = 0; i < rows.length; i++) {
                sum += areLike(rows[i], row) ? 1 : 0;
            }
            return sum;
        }
    }

    /** Two COLUMNS by whose VALUES two TABLES are JOINED. */
    private static final class Joint {
        private final Strip left;
        private final Strip right;
        /** By which VALUES are compared; NONE if they can't be. */
        final int type;

        Joint(Strip left, Strip right) {
            this.left = left;
            this.right = right;
            type = common(left.type, right.type);
        }

        private boolean match(int row, int other) {
            Cell one = left.cellOf(row);
            return !one.isEmpty() && one.comparedTo(right.cellOf(other), type) == 0;
        }

        int countPairs() {
            int sum = 0;
            for (int i = 0; i < left.rows.length; i++) {
                for (int j = 0; j < right.rows.length; j++) {
                    sum += match(left.rows[i], right.rows[j]) ? 1 : 0;
                }
            }
            return sum;
        }

        /** The JOINED TABLE; null if it is refused. */
        Sheet newSheet() {
            Column[] columns = type == NONE ? null : newColumns();
            int pairs = columns == null ? 0 : countPairs();
            if (columns == null || pairs > MOST_ROWS) {
                return null;
            }
            Cell[] cells = new Cell[pairs * columns.length];
            int rows = 0;
            for (int i = 0; i < left.rows.length; i++) {
                for (int j = 0; j < right.rows.length; j++) {
                    if (rows < pairs && match(left.rows[i], right.rows[j])) {
                        fillRow(cells, rows * columns.length, left.rows[i], right.rows[j]);
                        rows++;
                    }
                }
            }
            return new Sheet(columns, cells, pairs);
        }

        private void fillRow(Cell[] cells, int begin, int row, int other) {
            int width = left.sheet.columns.length;
            for (int c = 0; c < width; c++) {
                cells[begin + c] = left.sheet.cellOf(row, c);
            }
            for (int c = 0; c < right.sheet.columns.length - 1; c++) {
                cells[begin + width + c] = right.sheet.cellOf(other, rightColumn(c));
            }
        }

        /** The i-th COLUMN of the right TABLE without the one that it is JOINED by. */
        private int rightColumn(int i) {
            return i < right.column ? i : i + 1;
        }

        /** The COLUMNS of both; null if they are too many, or a NAME can't be. */
        private Column[] newColumns() {
            int width = left.sheet.columns.length;
            int all = width + right.sheet.columns.length - 1;
            if (all > MOST_COLUMNS) {
                return null;
            }
            Column[] columns = new Column[all];
            for (int c = 0; c < width; c++) {
                columns[c] = left.sheet.columns[c];
            }
            for (int c = width; c < all; c++) {
                Column source = right.sheet.columns[rightColumn(c - width)];
                byte[] name = freeName(columns, c, source.name);
                if (name == null) {
                    return null;
                }
                columns[c] = new Column(name, source.told);
            }
            return columns;
        }

        /** A NAME that none of the first n COLUMNS has, with _ behind it if need be; null if there is none. */
        private static byte[] freeName(Column[] columns, int n, byte[] name) {
            if (Column.indexOf(columns, n, name) == NONE) {
                return name;
            }
            byte[] longer = Arrays.copyOf(name, name.length + 1);
            longer[name.length] = '_';
            boolean free = Column.canBeName(longer) && Column.indexOf(columns, n, longer) == NONE;
            return free ? longer : null;
        }
    }

    /** THE TAPE. */
    private static final class Tape {
        final int[] bytes = new int[MOST_TAPE];
        int length = 0;

        boolean hasRoom(int numbers) {
            return length + 4 * numbers <= MOST_TAPE;
        }

        void add(int number) {
            for (int shift = 24; shift >= 0 && length < MOST_TAPE; shift -= 8) {
                bytes[length] = (number >>> shift) & 255;
                length++;
            }
        }

        static boolean isSign(int b) {
            return b >= BLANK && b <= LAST_SIGN;
        }

        /** What is on the tape as a CELL, null if it can't be one; the tape is empty then. */
        Cell takeCell() {
            byte[] taken = takeBytes();
            return taken == null ? null : new Cell(taken);
        }

        /** What is on the tape as a NAME, null if it can't be one; the tape is empty then. */
        byte[] takeName() {
            byte[] taken = takeBytes();
            return taken == null || !Column.canBeName(taken) ? null : taken;
        }

        private byte[] takeBytes() {
            int size = length;
            length = 0;
            if (size > MOST_CELL) {
                return null;
            }
            byte[] taken = new byte[size];
            for (int i = 0; i < size; i++) {
                if (!isSign(bytes[i]) && bytes[i] != LINE_END) {
                    return null;
                }
                taken[i] = (byte) bytes[i];
            }
            return taken;
        }
    }

    /** The FAULT of the latest reading (kind 0: none), and how many readings had one. */
    private static final class Fault {
        int kind = 0;
        int place = NONE;
        int line = NONE;
        int column = NONE;
        int cause = NONE;
        int readings = 0;

        void clear() {
            kind = 0;
            place = NONE;
            line = NONE;
            column = NONE;
            cause = NONE;
        }

        void tell(int toldKind, int toldPlace, int toldCause, Tape tape) {
            kind = toldKind;
            place = toldPlace;
            cause = toldCause;
            line = 0;
            int begin = 0;
            for (int i = 0; i < toldPlace && i < tape.length; i++) {
                if (tape.bytes[i] == LINE_END) {
                    line++;
                    begin = i + 1;
                }
            }
            column = toldPlace - begin;
            readings++;
        }
    }

    /** Reads THE TAPE. Its methods answer a FAULT's number, 0 without one; its place is then where the reader is. */
    private static final class Reader {
        private final Tape tape;
        private final int[] dialect;
        private final Fault fault;
        private final Cell blank = new Cell(new byte[0]);
        /** The place of the byte that is read next. */
        private int at = 0;
        private int cause = NONE;
        /** The CELL of the FIELD that is read, as far as it goes. */
        private final byte[] work = new byte[MOST_CELL];
        private int size = 0;
        /** The FIELDS of the LINE that is read, and the places of their first bytes. */
        private final Cell[] fields = new Cell[MOST_COLUMNS];
        private final int[] starts = new int[MOST_COLUMNS];
        private int count = 0;
        /** What has been READ so far: COLUMNS (null: no LINE told them) and ROWS. */
        private Column[] columns = null;
        final Cell[] cells = new Cell[MOST_ROWS * MOST_COLUMNS];
        private int rows = 0;

        Reader(Tape tape, int[] dialect, Fault fault) {
            this.tape = tape;
            this.dialect = dialect;
            this.fault = fault;
        }

        /** Reads all LINES, as ROWS of known COLUMNS or (null) as a TABLE of their own: whether without a FAULT. */
        boolean readLines(Column[] known, int most) {
            columns = known;
            at = 0;
            rows = 0;
            int lines = 0;
            while (lines <= MOST_TAPE && toLine()) {
                cause = NONE;
                int kind = takeLine(most);
                if (kind != 0) {
                    fault.tell(kind, at, cause, tape);
                    return false;
                }
                lines++;
            }
            if (lines == 0 || columns == null) {
                fault.tell(FAULT_NO_LINE, tape.length, NONE, tape);
                return false;
            }
            fault.clear();
            return true;
        }

        /** The TABLE that was READ; null if no LINE told its COLUMNS. */
        Sheet newSheet() {
            if (columns == null) {
                return null;
            }
            Cell[] kept = new Cell[rows * columns.length];
            for (int i = 0; i < kept.length; i++) {
                kept[i] = cells[i];
            }
            return new Sheet(columns, kept, rows);
        }

        /** Goes to the next LINE that is not passed over: whether there is one. */
        private boolean toLine() {
            while (at < tape.length) {
                if (tape.bytes[at] == LINE_END) {
                    at++;
                } else if (dialect[COMMENT] != 0 && tape.bytes[at] == dialect[COMMENT]) {
                    while (at < tape.length && tape.bytes[at] != LINE_END) {
                        at++;
                    }
                } else {
                    return true;
                }
            }
            return false;
        }

        private int takeLine(int most) {
            if (rows >= most) {
                return tooManyLines();
            }
            int kind = splitLine();
            if (kind != 0) {
                return kind;
            }
            if (columns == null && dialect[HEADER] == 1) {
                return takeNames();
            }
            if (columns == null) {
                columns = Column.numbered(count);
            }
            return takeRow();
        }

        /** A byte that can't be is the lesser FAULT at the same place. */
        private int tooManyLines() {
            int first = tape.bytes[at];
            if (Tape.isSign(first) || first == dialect[SEPARATOR]) {
                return FAULT_TOO_MANY;
            }
            cause = 0;
            return FAULT_BYTE;
        }

        private int splitLine() {
            count = 0;
            while (count < MOST_COLUMNS) {
                starts[count] = at;
                int kind = readField();
                if (kind != 0) {
                    cause = count;
                    return kind;
                }
                fields[count] = size == 0 ? blank : new Cell(Arrays.copyOf(work, size));
                count++;
                if (at >= tape.length || tape.bytes[at] == LINE_END) {
                    return 0;
                }
                if (count < MOST_COLUMNS) {
                    at++;
                }
            }
            return FAULT_TOO_MANY;
        }

        private int takeNames() {
            Column[] told = new Column[count];
            for (int i = 0; i < count; i++) {
                byte[] name = fields[i].bytes;
                if (!Column.canBeName(name) || Column.indexOf(told, i, name) != NONE) {
                    at = starts[i];
                    cause = i;
                    return FAULT_NAME;
                }
                told[i] = new Column(name, NONE);
            }
            columns = told;
            return 0;
        }

        private int takeRow() {
            int width = columns.length;
            if (count < width && (dialect[RAGGED] & RAGGED_SHORT) == 0) {
                cause = count;
                return FAULT_WIDTH;
            }
            if (count > width && (dialect[RAGGED] & RAGGED_LONG) == 0) {
                cause = count;
                at = starts[width] - 1;
                return FAULT_WIDTH;
            }
            for (int c = 0; c < width; c++) {
                cells[rows * width + c] = c < count ? fields[c] : blank;
            }
            rows++;
            return 0;
        }

        private int readField() {
            size = 0;
            skipBlanks();
            if (at >= tape.length || tape.bytes[at] != dialect[QUOTE]) {
                return readPlain();
            }
            int kind = readQuoted();
            return kind == 0 ? checkBehindQuote() : kind;
        }

        private void skipBlanks() {
            while (dialect[TRIM] == 1 && at < tape.length && tape.bytes[at] == BLANK) {
                at++;
            }
        }

        private int readPlain() {
            int blanks = 0;
            for (; at < tape.length; at++) {
                int b = tape.bytes[at];
                if (b == dialect[SEPARATOR] || b == LINE_END) {
                    return 0;
                }
                if (!Tape.isSign(b)) {
                    return FAULT_BYTE;
                }
                if (b == dialect[QUOTE]) {
                    return FAULT_STRAY_QUOTE;
                }
                if (b == BLANK && dialect[TRIM] == 1) {
                    blanks++;
                    continue;
                }
                if (size + blanks >= MOST_CELL) {
                    return FAULT_LONG_CELL;
                }
                for (; blanks > 0; blanks--) {
                    keepByte(BLANK);
                }
                keepByte(b);
            }
            return 0;
        }

        private int readQuoted() {
            for (at++; at < tape.length; at++) {
                int b = tape.bytes[at];
                if (!Tape.isSign(b) && b != LINE_END) {
                    return FAULT_BYTE;
                }
                if (b == dialect[QUOTE]) {
                    at++;
                    if (at >= tape.length || tape.bytes[at] != b) {
                        return 0;
                    }
                }
                if (size >= MOST_CELL) {
                    return FAULT_LONG_CELL;
                }
                keepByte(b);
            }
            return FAULT_OPEN_QUOTE;
        }

        private int checkBehindQuote() {
            skipBlanks();
            if (at >= tape.length) {
                return 0;
            }
            int b = tape.bytes[at];
            if (b == dialect[SEPARATOR] || b == LINE_END) {
                return 0;
            }
            return Tape.isSign(b) ? FAULT_BEHIND_QUOTE : FAULT_BYTE;
        }

        private void keepByte(int b) {
            if (size < MOST_CELL) {
                work[size] = (byte) b;
                size++;
            }
        }
    }

    /** Writes a VIEW by THE DIALECT. */
    private static final class Writer {
        private final int[] dialect;
        final byte[] bytes = new byte[MOST_WRITTEN];
        int length = 0;

        Writer(int[] dialect) {
            this.dialect = dialect;
        }

        void writeSheet(Sheet sheet, int[] rows) {
            length = 0;
            boolean room = dialect[HEADER] == 0 || writeNames(sheet.columns);
            for (int i = 0; room && i < rows.length; i++) {
                room = writeRow(sheet, rows[i]);
            }
        }

        private boolean writeNames(Column[] columns) {
            int begin = length;
            for (int c = 0; c < columns.length; c++) {
                separate(c);
                writeBytes(columns[c].name);
            }
            return closeLine(begin);
        }

        private boolean writeRow(Sheet sheet, int row) {
            int begin = length;
            int width = sheet.columns.length;
            for (int c = 0; c < width; c++) {
                Cell cell = sheet.cellOf(row, c);
                separate(c);
                if (needsQuotes(cell, c, width)) {
                    writeQuoted(cell.bytes);
                } else {
                    writeBytes(cell.bytes);
                }
            }
            return closeLine(begin);
        }

        private void separate(int column) {
            if (column > 0) {
                append(dialect[SEPARATOR]);
            }
        }

        private void writeBytes(byte[] what) {
            for (int i = 0; i < what.length; i++) {
                append(what[i]);
            }
        }

        private void writeQuoted(byte[] what) {
            append(dialect[QUOTE]);
            for (int i = 0; i < what.length; i++) {
                if (what[i] == dialect[QUOTE]) {
                    append(dialect[QUOTE]);
                }
                append(what[i]);
            }
            append(dialect[QUOTE]);
        }

        /** Counts on beyond the room, so that closeLine sees that a LINE did not fit. */
        private void append(int b) {
            if (length < MOST_WRITTEN) {
                bytes[length] = (byte) b;
            }
            length++;
        }

        /** Ends a LINE, or takes it away if there was no room for all of it: whether there was. */
        private boolean closeLine(int begin) {
            append(LINE_END);
            if (length > MOST_WRITTEN) {
                length = begin;
                return false;
            }
            return true;
        }

        boolean needsQuotes(Cell cell, int column, int width) {
            byte[] what = cell.bytes;
            if (what.length == 0) {
                return width == 1;
            }
            if (dialect[TRIM] == 1 && (what[0] == BLANK || what[what.length - 1] == BLANK)) {
                return true;
            }
            if (column == 0 && what[0] == dialect[COMMENT]) {
                return true;
            }
            for (int i = 0; i < what.length; i++) {
                if (what[i] == dialect[SEPARATOR] || what[i] == dialect[QUOTE] || what[i] == LINE_END) {
                    return true;
                }
            }
            return false;
        }
    }

    /** What the TABLES and THE DIALECT are, and how the latest ACTS are undone; THE IMAGE is another one. */
    private static final class State {
        final int[] dialect = new int[DIALECT_PARTS];
        private final Sheet[] sheets = new Sheet[TABLES];
        private final View[] views = new View[TABLES];
        /** Of each ACT which TABLE it changed, and what that was ahead of it. */
        private final int[] actTables = new int[MOST_ACTS];
        private final Sheet[] actSheets = new Sheet[MOST_ACTS];
        int acts = 0;

        State() {
            dialect[SEPARATOR] = ',';
            dialect[QUOTE] = '"';
            dialect[HEADER] = 1;
        }

        static boolean isPlace(int table) {
            return table >= 0 && table < TABLES;
        }

        /** What a TABLE is made of; null if it is not there. */
        Sheet sheetOf(int table) {
            return isPlace(table) ? sheets[table] : null;
        }

        /** The top VIEW of a TABLE; null if that is not there. */
        View topOf(int table) {
            return isPlace(table) ? views[table] : null;
        }

        /** A COLUMN as the top VIEW shows it; null if there is none such. */
        Strip stripOf(int table, int column) {
            Sheet sheet = sheetOf(table);
            View top = topOf(table);
            if (sheet == null || top == null || !sheet.hasColumn(column)) {
                return null;
            }
            return new Strip(sheet, column, top.rows);
        }

        boolean canStack(int table) {
            View top = topOf(table);
            return top != null && top.depth < MOST_VIEWS;
        }

        /** Lays a VIEW of these ROWS on a TABLE's others: how many ROWS. */
        int stack(int table, int[] rows) {
            views[table] = new View(rows, views[table]);
            return rows.length;
        }

        void setTop(int table, View top) {
            views[table] = top;
        }

        private void takeViewsOff(int table) {
            Sheet sheet = sheets[table];
            views[table] = sheet == null ? null : sheet.all;
        }

        /** An ACT changes just one TABLE, so what that was is all that undoing needs. */
        void act(int table, Sheet sheet) {
            if (acts == MOST_ACTS) {
                forgetFirstAct();
            }
            actTables[acts] = table;
            actSheets[acts] = sheets[table];
            acts++;
            sheets[table] = sheet;
            takeViewsOff(table);
        }

        private void forgetFirstAct() {
            for (int i = 1; i < MOST_ACTS; i++) {
                actTables[i - 1] = actTables[i];
                actSheets[i - 1] = actSheets[i];
            }
            acts--;
        }

        void undoAct() {
            if (acts > 0) {
                acts--;
                sheets[actTables[acts]] = actSheets[acts];
                for (int t = 0; t < TABLES; t++) {
                    takeViewsOff(t);
                }
            }
        }

        /** Becomes like another one; no ACTS are left then. */
        void copyFrom(State other) {
            System.arraycopy(other.dialect, 0, dialect, 0, DIALECT_PARTS);
            for (int t = 0; t < TABLES; t++) {
                sheets[t] = other.sheets[t];
                views[t] = other.views[t];
            }
            acts = 0;
        }

        int tablesThere() {
            int set = 0;
            for (int t = 0; t < TABLES; t++) {
                set |= sheets[t] == null ? 0 : 1 << t;
            }
            return set;
        }

        int countCells() {
            int sum = 0;
            for (int t = 0; t < TABLES; t++) {
                Sheet sheet = sheets[t];
                sum += sheet == null ? 0 : sheet.cells.length;
            }
            return sum;
        }
    }
}
