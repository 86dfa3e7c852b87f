/** The fourth part of the Terms and promises 9 to 11, 14, 21 and 35 to 38, sentence by sentence. */
public final class BoundsStateTest extends Check {
    private static final int SEPARATOR = 0;
    private static final int QUOTE = 1;
    private static final int HEADER = 2;
    private static final int TRIM = 3;
    private static final int COMMENT = 5;

    private static final int TEXT = 5;
    private static final String LETTERS = "abcdefghijklmnopqrst";

    public static void main(String[] args) {
        writtenLines();
        writtenInQuotes();
        writtenTrimmed();
        writtenComment();
        writtenEmpty();
        writtenRoom();
        actsUndone();
        latestSix();
        undoneAll();
        imageOf();
        imageMoreThanOnce();
        constants();
        out();
        name();
        away();
        undo();
        table();
        write();
        writeNone();
        sign();
        image();
        look();
        finish();
    }

    // ---- ==== 4, WRITTEN

    private static void writtenLines() {
        term(4, "WRITTEN: the top VIEW by THE DIALECT: with HEADER the NAMES as a LINE; then its ROWS, a 10 behind each LINE.");
        TypedTables x = made("a,b\n1,x\n2,y\n3,z\n");
        due("all rows", written(x, 0), "a,b\n1,x\n2,y\n3,z\n");
        x.order(0, 0, true);
        x.cut(0, 0, 2);
        due("the top view", written(x, 0), "a,b\n3,z\n2,y\n");
        x.dialect(HEADER, 0);
        due("without HEADER", written(x, 0), "3,z\n2,y\n");
        for (int separator : new int[] {44, 59, 124, 9}) {
            String s = "" + (char) separator;
            x.dialect(SEPARATOR, separator);
            due("by the dialect", written(x, 0), "3" + s + "z\n2" + s + "y\n");
        }
        x.cut(0, 0, 0);
        due("no rows, no names", written(x, 0), "");
        x.dialect(HEADER, 1);
        due("names alone", written(x, 0), "a\tb\n");
        due("one column", written(made("a\n1\n"), 0), "a\n1\n");
        String eight = "a,b,c,d,e,f,g,h\n,,,,,,,\n";
        due("eight columns", written(made(eight), 0), eight);
    }

    /** How a CELL is written as the second of a LINE of three. */
    private static void writtenAs(String want, String cell, int... dialect) {
        TypedTables x = made("a,b,c\np,q,r\n");
        due("put", put(x, 0, 0, 1, cell), true);
        check(x, 1, want, cell, dialect);
        String s = "" + (char) x.look(SEPARATOR);
        due("written <" + cell + ">", written(x, 0), "p" + s + want + s + "r\n");
    }

    private static void firstAs(String want, String cell, int... dialect) {
        TypedTables x = made("a,b\np,q\n");
        due("put", put(x, 0, 0, 0, cell), true);
        check(x, 0, want, cell, dialect);
        due("written <" + cell + ">", written(x, 0), want + "," + "q\n");
    }

    private static void onlyAs(String want, String cell, int... dialect) {
        TypedTables x = made("a\np\n");
        due("put", put(x, 0, 0, 0, cell), true);
        check(x, 0, want, cell, dialect);
        due("written <" + cell + ">", written(x, 0), want + "\n");
    }

    private static void check(TypedTables x, int column, String want, String cell, int... dialect) {
        x.dialect(HEADER, 0);
        for (int i = 0; i + 1 < dialect.length; i += 2) {
            due("dialect", x.dialect(dialect[i], dialect[i + 1]), true);
        }
        due("in quotes <" + cell + ">", x.cell(0, 0, column, 2), want.equals(cell) ? 0 : 1);
    }

    private static void writtenInQuotes() {
        term(4, "A CELL is in quotes (QUOTES in it twice), if it has SEPARATOR, QUOTE or 10;");
        for (int separator : new int[] {44, 59, 124, 9}) {
            for (int b = 32; b < 127; b++) {
                String s = "" + (char) b;
                boolean quoted = b == separator || b == 34;
                writtenAs(quoted ? "\"x" + (b == 34 ? "\"\"" : s) + "y\"" : "x" + s + "y", "x" + s + "y", SEPARATOR, separator);
            }
        }
        for (String s : new String[] {"\"", "x\"", "\"x"}) {
            writtenAs("\"" + s.replace("\"", "\"\"") + "\"", s);
            writtenAs(s, s, QUOTE, 39);
        }
        for (String s : new String[] {"'", "x'", "'x"}) {
            writtenAs("'" + s.replace("'", "''") + "'", s, QUOTE, 39);
            writtenAs(s, s);
        }
        for (String s : new String[] {",", "x,", ",x", "\n", "x\n", "\nx"}) {
            writtenAs("\"" + s + "\"", s);
            writtenAs("'" + s + "'", s, QUOTE, 39);
        }
        String most = "\"".repeat(20);
        writtenAs("\"" + most + most + "\"", most);
    }

    private static void writtenTrimmed() {
        term(4, "or, with TRIM, a blank at its begin or end;");
        for (String s : new String[] {" x", "x ", " ", " x ", "  "}) {
            writtenAs("\"" + s + "\"", s, TRIM, 1);
            firstAs("\"" + s + "\"", s, TRIM, 1);
            writtenAs(s, s);
        }
        writtenAs("x y", "x y", TRIM, 1);
        writtenAs("", "", TRIM, 1);
    }

    private static void writtenComment() {
        term(4, "or it is the first of its LINE and begins with COMMENT;");
        for (int comment : new int[] {35, 37, 42}) {
            String c = "" + (char) comment;
            firstAs("\"" + c + "\"", c, COMMENT, comment);
            firstAs("\"" + c + "x\"", c + "x", COMMENT, comment);
            firstAs("x" + c, "x" + c, COMMENT, comment);
            firstAs(" " + c, " " + c, COMMENT, comment);
            firstAs(c, c, COMMENT, comment == 35 ? 37 : 35);
            firstAs(c, c);
            writtenAs(c, c, COMMENT, comment);
            onlyAs("\"" + c + "\"", c, COMMENT, comment);
        }
    }

    private static void writtenEmpty() {
        term(4, "or it has no bytes and is the only one of its LINE. Else it is plain.");
        onlyAs("\"\"", "");
        onlyAs("''", "", QUOTE, 39);
        firstAs("", "");
        firstAs("", "", COMMENT, 35);
        writtenAs("", "");
        onlyAs(" ", " ");
        onlyAs("x", "x");
        onlyAs("2024-02-29", "2024-02-29");
    }

    /** A TABLE of 8 COLUMNS and ROWS of 8 CELLS of 20 bytes: LINES of 168 bytes. */
    private static TypedTables large(int rows) {
        TypedTables x = made("a,b,c,d,e,f,g,h\n");
        String line = (LETTERS + ",").repeat(7) + LETTERS;
        for (int i = 0; i < rows; i++) {
            row(x, 0, line);
        }
        due("rows", x.table(0, 1), rows);
        return x;
    }

    private static void writtenRoom() {
        term(4, "(6000 bytes at most: as many whole LINES as there is room for.)");
        TypedTables x = large(36);
        due("16 and 35 lines of 168", x.write(0), 16 + 35 * 168);
        due("a whole line", x.sign(16 + 35 * 168 - 1), 10);
        due("no more", x.sign(16 + 35 * 168), -1);
        x.dialect(HEADER, 0);
        due("35 lines of 168", x.write(0), 35 * 168);
        for (int c = 0; c < 8; c++) {
            put(x, 0, 35, c, c < 5 ? LETTERS : c == 5 ? LETTERS.substring(8) : "");
        }
        due("and one of 120 is 6000", x.write(0), 6000);
        due("the last", x.sign(5999), 10);
        due("no more", x.sign(6000), -1);
        put(x, 0, 35, 7, "1");
        due("and one of 121 is too much", x.write(0), 35 * 168);
        due("no more", x.sign(35 * 168), -1);
        put(x, 0, 35, 7, "");
        put(x, 0, 35, 0, LETTERS.substring(2) + ",");
        due("quotes count", x.write(0), 35 * 168);
        row(x, 0, ",,,,,,,");
        due("none behind it, either", x.write(0), 35 * 168);
        x.cut(0, 36, 1);
        due("a short one alone", x.write(0), 8);
    }

    // ---- ==== 4, ACTS and THE IMAGE

    /** The n-th of the ACTS: whether it was not refused. */
    private static boolean act(TypedTables x, int n) {
        switch (n) {
            case 0: return read(x, 0, "q\n1\n") == 1;
            case 1: return put(x, 0, 0, 0, "9");
            case 2: return row(x, 0, "5,6") == 3;
            case 3: return x.out(0, 0) == 1;
            case 4: return name(x, 0, 0, "q");
            case 5: return x.away(0, 0) == 1;
            case 6: return x.type(0, 0, TEXT);
            default: return x.joined(0, 0, 0, 0, 2) == 2;
        }
    }

    private static boolean refused(TypedTables x, int n) {
        switch (n) {
            case 0: return read(x, 0, "q q\n1\n") == -1;
            case 1: return !put(x, 0, 0, 0, "\t");
            case 2: return row(x, 0, "5") == -1;
            case 3: return x.out(0, 2) == -1;
            case 4: return !name(x, 0, 0, "b");
            case 5: return x.away(0, 2) == -1;
            case 6: return !x.type(0, 0, 4);
            default: return x.joined(0, 0, 0, 0, 0) == -1;
        }
    }

    /** All that can be seen of the TABLES. */
    private static String seen(TypedTables x) {
        StringBuilder all = new StringBuilder();
        for (int t = 0; t < 3; t++) {
            all.append("[").append(names(x, t)).append("|").append(cells(x, t)).append("|").append(view(x, t));
            all.append("|").append(x.table(t, 2));
            for (int c = 0; c < x.table(t, 0); c++) {
                all.append(" ").append(x.column(t, c, 2));
            }
            all.append("]");
        }
        return all.toString();
    }

    private static void actsUndone() {
        term(4, "ACTS that can be UNDONE (the latest 6): read(), put(), row(), out(), name(), away(), type(), joined(), as far as they are"
            + " not refused:");
        for (int n = 0; n < 8; n++) {
            TypedTables x = made("a,b\n1,2\n3,4\n", "c\n7\n");
            String before = seen(x);
            due("refused " + n, refused(x, n), true);
            due("no act", x.look(7), 2);
            due("nothing is changed", seen(x), before);
            due("act " + n, act(x, n), true);
            due("an act", x.look(7), 3);
            due("it is changed", seen(x).equals(before), false);
            due("undo", x.undo(), 2);
            due("as it was ahead of act " + n, seen(x), before);
        }
        TypedTables y = made("a\n1\n2\n");
        y.order(0, 0, true);
        y.cut(0, 0, 1);
        y.unlike(0, 0);
        narrow(y, 0, 0, 7, "");
        y.back(0);
        y.dialect(SEPARATOR, 59);
        y.write(0);
        y.image(true);
        due("these are no acts", y.look(7), 1);
    }

    private static void latestSix() {
        term(4, "(the latest 6):");
        TypedTables x = made("a\n0\n");
        for (int i = 1; i <= 5; i++) {
            put(x, 0, 0, 0, "" + i);
            due("acts", x.look(7), i + 1);
        }
        put(x, 0, 0, 0, "6");
        due("6 of 7", x.look(7), 6);
        put(x, 0, 0, 0, "7");
        due("6 of 8", x.look(7), 6);
        for (int left = 5; left >= 0; left--) {
            due("undo", x.undo(), left);
            due("cell", cell(x, 0, 0, 0), "" + (left + 1));
        }
        due("none", x.undo(), -1);
        due("cell", cell(x, 0, 0, 0), "1");
        put(x, 0, 0, 0, "8");
        due("one more", x.look(7), 1);
        due("undo", x.undo(), 0);
        due("cell", cell(x, 0, 0, 0), "1");
        latestSixOfSeveral();
    }

    /** The latest 6 are of all TABLES together: each is undone on the TABLE that it changed. */
    private static void latestSixOfSeveral() {
        TypedTables x = made("a\n0\n", "b\n0\n", "c\n0\n");
        int[] tables = {0, 1, 2, 2, 0, 1, 0, 2, 1};
        String[] ahead = new String[tables.length];
        for (int i = 0; i < tables.length; i++) {
            ahead[i] = seen(x);
            due("put", put(x, tables[i], 0, 0, "" + (i + 1)), true);
        }
        for (int i = tables.length - 1; i >= tables.length - 6; i--) {
            due("undo", x.undo(), i - (tables.length - 6));
            due("as ahead of act " + i, seen(x), ahead[i]);
        }
        due("none", x.undo(), -1);
        due("as ahead of the latest 6", seen(x), ahead[tables.length - 6]);
    }

    private static void undoneAll() {
        term(4, "all TABLES are as ahead of it, VIEWS but the lowest off all; THE DIALECT stays.");
        TypedTables x = made("a\n1\n2\n", "b\n3\n4\n");
        put(x, 0, 0, 0, "9");
        for (int t = 0; t < 2; t++) {
            x.cut(t, 0, 1);
            x.cut(t, 0, 0);
        }
        x.dialect(SEPARATOR, 59);
        x.dialect(TRIM, 1);
        due("undo", x.undo(), 2);
        due("as ahead of it", cells(x, 0), "1/2");
        for (int t = 0; t < 2; t++) {
            due("views off all", x.table(t, 2), 0);
            due("but the lowest", x.view(t, -1), 2);
        }
        due("the dialect stays", x.look(SEPARATOR), 59);
        due("the dialect stays", x.look(TRIM), 1);
        due("undo", x.undo(), 1);
        due("not there", x.look(6), 1);
        due("not there", x.view(1, -1), -1);
        due("undo", x.undo(), 0);
        due("not there", x.look(6), 0);
        TypedTables y = made("a\n1\n", "a\n1\n", "z,y\n5,6\n");
        y.joined(0, 0, 1, 0, 2);
        due("undo", y.undo(), 3);
        due("what c was", cells(y, 2), "5!6");
        due("its names", names(y, 2), "z y");
    }

    private static void imageOf() {
        term(4, "THE IMAGE: TABLES, VIEWS, THE DIALECT as they were when it was taken (not THE TAPE, faults, what was WRITTEN);");
        TypedTables x = made("a,b\n1,2\n3,4\n", "c\n7\n");
        x.type(0, 1, TEXT);
        for (int i = 0; i < 6; i++) {
            x.order(0, 0, i % 2 == 0);
        }
        x.cut(1, 0, 0);
        x.dialect(SEPARATOR, 124);
        x.dialect(COMMENT, 42);
        String before = seen(x);
        x.write(0);
        tape(x, "abc");
        due("taken", x.image(true), true);
        x.end(0);
        x.dialect(SEPARATOR, 9);
        x.dialect(COMMENT, 0);
        x.away(0, 0);
        read(x, 1, "d\n");
        read(x, 2, "e\n");
        read(x, 2, "\"");
        x.write(1);
        tape(x, "wxyz");
        due("gone back", x.image(false), true);
        due("tables and views", seen(x), before);
        due("tables", x.look(6), 3);
        due("dialect", x.look(SEPARATOR), 124);
        due("dialect", x.look(COMMENT), 42);
        due("not the tape", x.look(8), 4);
        due("not faults", fault(x), "4 1 0 1 0");
        due("not faults", x.look(10), 1);
        due("not what was written", x.sign(0), 'd');
        due("not what was written", x.sign(2), -1);
        due("the views below, too", x.back(0), 5);
        due("view", view(x, 0), "1 0");
    }

    private static void imageMoreThanOnce() {
        term(4, "gone back to it may be more than once (no ACTS are left then).");
        TypedTables x = made("a\n1\n2\n");
        x.order(0, 0, true);
        String before = seen(x);
        due("taken", x.image(true), true);
        due("acts stay", x.look(7), 1);
        for (int i = 0; i < 3; i++) {
            put(x, 0, 0, 0, "9");
            x.cut(0, 0, 1);
            due("gone back", x.image(false), true);
            due("as it was", seen(x), before);
            due("no acts", x.look(7), 0);
            due("none to undo", x.undo(), -1);
        }
        x.out(0, 0);
        due("another is taken", x.image(true), true);
        due("the act can be undone", x.undo(), 0);
        due("undone", x.table(0, 1), 2);
        due("gone back", x.image(false), true);
        due("the latest one", cells(x, 0), "2");
        due("no acts", x.look(7), 0);
        TypedTables y = new TypedTables();
        due("of no tables", y.image(true), true);
        read(y, 0, "a\n");
        due("gone back", y.image(false), true);
        due("no tables", y.look(6), 0);
    }

    private static void constants() {
        term(4, "The constants: `NONE = -1`: None.");
        due("NONE", TypedTables.NONE, -1);
    }

    // ---- promises 9 to 11, 14 and 21

    private static void out() {
        promise(9, "A ROW goes: how many are left;");
        TypedTables x = made("a,b\n1,2\n3,4\n5,6\n7,8\n");
        due("the last", x.out(0, 3), 3);
        due("the first", x.out(0, 0), 2);
        due("cells", cells(x, 0), "3!4/5!6");
        due("one", x.out(0, 1), 1);
        promise(9, "NONE if there is none such.");
        for (int n : new int[] {-1, 1, -2, Integer.MIN_VALUE, Integer.MAX_VALUE}) {
            due("no such row", x.out(0, n), -1);
            due("no such table", x.out(n, 0), -1);
        }
        due("no such table", x.out(3, 0), -1);
        due("cells", cells(x, 0), "3!4");
        due("none is left", x.out(0, 0), 0);
        due("no such row", x.out(0, 0), -1);
        due("columns stay", x.table(0, 0), 2);
    }

    private static void name() {
        promise(10, "THE TAPE becomes the NAME of a COLUMN: true; false if it can't be, or another COLUMN has it.");
        TypedTables x = made("a,b\n1,2\n");
        due("one byte", name(x, 0, 0, "Q"), true);
        due("12 bytes", name(x, 0, 1, "twelve_bytes"), true);
        due("names", names(x, 0), "Q twelve_bytes");
        due("its own", name(x, 0, 0, "Q"), true);
        due("acts", x.look(7), 4);
        for (String s : new String[] {"twelve_bytes", "", "thirteenbytes", "a b", "a-", "a.", "\t", "a" + (char) 0, "x".repeat(30)}) {
            due("name <" + s + ">", name(x, 0, 0, s), false);
            due("tape", x.look(8), 0);
        }
        for (int n : new int[] {-1, 2, 3, -2, Integer.MIN_VALUE, Integer.MAX_VALUE}) {
            due("no such column", name(x, 0, n, "z"), false);
            due("no such table", name(x, n, 0, "z"), false);
            due("tape", x.look(8), 0);
        }
        due("names", names(x, 0), "Q twelve_bytes");
        due("acts", x.look(7), 4);
        due("a begin of another", name(x, 0, 0, "twelve_byte"), true);
        due("what another had", name(x, 0, 1, "Q"), true);
        TypedTables y = made("a\n", "b\n");
        due("another table has it", name(y, 0, 0, "b"), true);
    }

    private static void away() {
        promise(11, "A COLUMN goes: how many are left;");
        TypedTables x = made("a,b,c,d\n1,2,3,4\n5,6,7,8\n");
        x.type(0, 2, TEXT);
        due("the last", x.away(0, 3), 3);
        due("the first", x.away(0, 0), 2);
        due("cells", cells(x, 0), "2!3/6!7");
        due("names", names(x, 0), "b c");
        due("told goes along", x.column(0, 1, 2), TEXT);
        due("told goes along", x.column(0, 0, 2), -1);
        promise(11, "NONE if there is none such, or it is the only one.");
        for (int n : new int[] {-1, 2, 3, -2, Integer.MIN_VALUE, Integer.MAX_VALUE}) {
            due("no such column", x.away(0, n), -1);
            due("no such table", x.away(n, 0), -1);
        }
        due("one is left", x.away(0, 1), 1);
        due("it is the only one", x.away(0, 0), -1);
        due("it stays", cells(x, 0), "2/6");
        due("acts", x.look(7), 5);
    }

    private static void undo() {
        promise(14, "The latest ACT is UNDONE: how many are left. NONE if there is none.");
        TypedTables x = new TypedTables();
        due("none", x.undo(), -1);
        read(x, 0, "a\n1\n");
        read(x, 0, "b\n2\n");
        due("one left", x.undo(), 1);
        due("names", names(x, 0), "a");
        due("none left", x.undo(), 0);
        due("tables", x.look(6), 0);
        due("none", x.undo(), -1);
        read(x, 1, "\"");
        due("a refused one", x.undo(), -1);
    }

    private static void table() {
        promise(21, "Of a TABLE what 0 COLUMNS, 1 ROWS, 2 VIEWS above the lowest, 3 bytes of all CELLS.");
        TypedTables x = made("a,b\nxyz,\n1,22\n", "abc\n");
        int[] first = {2, 2, 0, 6};
        int[] second = {1, 0, 0, 0};
        for (int what = 0; what < 4; what++) {
            due("table " + what, x.table(0, what), first[what]);
            due("table " + what, x.table(1, what), second[what]);
        }
        x.cut(0, 0, 1);
        due("views", x.table(0, 2), 1);
        due("rows, not of a view", x.table(0, 1), 2);
        due("bytes, not of a view", x.table(0, 3), 6);
        TypedTables y = large(40);
        due("columns", y.table(0, 0), 8);
        due("rows", y.table(0, 1), 40);
        due("bytes", y.table(0, 3), 6400);
        promise(21, "NONE if there is none such, or another what.");
        for (int n : new int[] {-1, 4, -2, Integer.MIN_VALUE, Integer.MAX_VALUE}) {
            due("another what", x.table(0, n), -1);
            due("no such table", x.table(n, 0), -1);
        }
        for (int what = 0; what < 4; what++) {
            due("no such table", x.table(2, what), -1);
            due("no such table", x.table(3, what), -1);
        }
    }

    // ---- promises 35 to 38

    private static void write() {
        promise(35, "WRITTEN: how many bytes.");
        TypedTables x = made("a,b\n1,\"x,\"\n", "a\n");
        due("bytes", x.write(0), 11);
        due("names alone", x.write(1), 2);
        x.dialect(HEADER, 0);
        due("nothing to write", x.write(1), 0);
        due("it is what was written last", x.sign(0), -1);
        due("once more", x.write(0), 7);
        due("no act", x.look(7), 2);
    }

    private static void writeNone() {
        promise(35, "NONE, and nothing is WRITTEN, if there is no such TABLE.");
        TypedTables x = made("a\n1\n");
        due("written", x.write(0), 4);
        for (int t : new int[] {1, 2, 3, -1, Integer.MIN_VALUE, Integer.MAX_VALUE}) {
            due("no such table", x.write(t), -1);
            due("what was written last stays", x.sign(0), 'a');
            due("what was written last stays", x.sign(3), 10);
        }
    }

    private static void sign() {
        promise(36, "Byte i of what was WRITTEN last. NONE if there is none such.");
        TypedTables x = made("ab\n1\n", "c\n");
        due("nothing was written", x.sign(0), -1);
        due("nothing was written", x.sign(-1), -1);
        x.write(0);
        due("first", x.sign(0), 'a');
        due("last", x.sign(4), 10);
        due("beyond", x.sign(5), -1);
        for (int n : new int[] {-1, -2, 6000, Integer.MIN_VALUE, Integer.MAX_VALUE}) {
            due("none such", x.sign(n), -1);
        }
        x.out(0, 0);
        name(x, 0, 0, "q");
        due("as it was written", x.sign(0), 'a');
        due("as it was written", x.sign(3), '1');
        x.write(1);
        due("the last", x.sign(0), 'c');
        due("the last", x.sign(1), 10);
        due("no more of what was ahead of it", x.sign(2), -1);
    }

    private static void image() {
        promise(37, "THE IMAGE is taken (true), or gone back to (false): true; false if there is none.");
        TypedTables x = made("a\n1\n");
        due("none", x.image(false), false);
        due("nothing is changed", cells(x, 0), "1");
        due("acts stay", x.look(7), 1);
        due("taken", x.image(true), true);
        put(x, 0, 0, 0, "2");
        due("gone back", x.image(false), true);
        due("cell", cells(x, 0), "1");
        put(x, 0, 0, 0, "3");
        due("taken again", x.image(true), true);
        due("gone back", x.image(false), true);
        due("the later one", cells(x, 0), "3");
    }

    private static void look() {
        promise(38, "What 0 .. 5 THE DIALECT, 6 TABLES that are there (a set), 7 ACTS that can be undone, 8 bytes on THE TAPE, 9 CELLS of all"
            + " TABLES, 10 readings with a FAULT (in all).");
        TypedTables x = new TypedTables();
        int[] first = {44, 34, 1, 0, 0, 0, 0, 0, 0, 0, 0};
        for (int what = 0; what < 11; what++) {
            due("at first " + what, x.look(what), first[what]);
        }
        for (int set = 0; set < 8; set++) {
            TypedTables y = new TypedTables();
            for (int t = 0; t < 3; t++) {
                if ((set >> t & 1) == 1) {
                    read(y, t, "a\n");
                }
            }
            due("a set", y.look(6), set);
        }
        read(x, 0, "a,b\n1,2\n3,4\n");
        read(x, 2, "a,b,c\n,,\n");
        due("acts", x.look(7), 2);
        due("cells of all tables", x.look(9), 7);
        read(x, 1, "\"");
        row(x, 0, "1");
        read(x, 5, "\"");
        row(x, 1, "1");
        due("readings with a fault", x.look(10), 2);
        x.undo();
        x.image(true);
        x.image(false);
        due("in all", x.look(10), 2);
        due("cells", x.look(9), 4);
        tape(x, "x".repeat(800));
        due("tape", x.look(8), 800);
        x.cut(0, 0, 0);
        due("cells, not of a view", x.look(9), 4);
        promise(38, "NONE for another what.");
        for (int n : new int[] {-1, 11, -2, Integer.MIN_VALUE, Integer.MAX_VALUE}) {
            due("look(" + n + ")", x.look(n), -1);
        }
    }
}
