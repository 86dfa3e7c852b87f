import java.time.LocalDate;

/** The second part of the Terms and promises 7, 12 and 22 to 30, sentence by sentence. */
public final class BoundsTypesTest extends Check {
    private static final int EMPTY = 0;
    private static final int BOOL = 1;
    private static final int INT = 2;
    private static final int FIXED = 3;
    private static final int DATE = 4;
    private static final int TEXT = 5;
    /** A CELL of each TYPE. */
    private static final String[] OF = {"", "yes", "7", "7.5", "2024-02-29", "x"};
    private static final String TWENTY = "12345678901234567890";

    public static void main(String[] args) {
        types();
        emptyAndBool();
        ints();
        fixed();
        dates();
        joins();
        guesses();
        proofs();
        holds();
        toldTypes();
        typeOfColumn();
        takesOnlyHeld();
        values();
        lessAndAlike();
        put();
        putRefused();
        type();
        typeRefused();
        columnLooks();
        nameAt();
        find();
        proof();
        against();
        cell();
        cellAt();
        value();
        compare();
        finish();
    }

    /** A TABLE of one COLUMN with these CELLS. */
    private static TypedTables column(String... cells) {
        TypedTables x = made("a\n");
        for (String cell : cells) {
            row(x, 0, "\"" + cell.replace("\"", "\"\"") + "\"");
        }
        due("rows", x.table(0, 1), cells.length);
        return x;
    }

    private static void own(int type, String... cells) {
        for (String cell : cells) {
            due("own type of <" + cell + ">", column(cell).cell(0, 0, 0, 0), type);
        }
    }

    // ---- ==== 2

    private static void types() {
        term(2, "TYPES: 0 EMPTY, 1 BOOL, 2 INT, 3 FIXED, 4 DATE, 5 TEXT.");
        for (int type = EMPTY; type <= TEXT; type++) {
            own(type, OF[type]);
        }
    }

    private static void emptyAndBool() {
        term(2, "A CELL's own: EMPTY: no bytes;");
        own(EMPTY, "");
        own(TEXT, " ", "\n");
        term(2, "BOOL: yes, no, true, false;");
        own(BOOL, "yes", "no", "true", "false");
        own(TEXT, "y", "ye", "yess", "Yes", "YES", "n", "No", "noo", "nn", "tru", "truee", "True", "trua", "fals", "falsee",
            "FALSE", " yes", "no ", "xes", "yes\n");
    }

    private static void ints() {
        term(2, "INT: [ - ] 1 to 9 digits, no 0 ahead (but 0 alone; not -0);");
        own(INT, "0", "1", "9", "-1", "-9", "10", "123456789", "-123456789", "999999999", "-999999999", "100000000");
        own(TEXT, "1234567890", "-1234567890", "1000000000", "00", "01", "-01", "012345678", "-0", "-00", "-", "--1", "+1", "1-",
            " 1", "1 ", "1,0", "1/", "1:", "/1", ":1", "-/", "-:", "a1", "1a", "-a", "0-", "0x1", "1\n");
    }

    private static void fixed() {
        term(2, "FIXED: [ - ] likewise, \".\", 1 to 4 digits (-0.5, too);");
        own(FIXED, "0.0", "0.5", "-0.5", "-0.0", "1.2", "1.23", "1.234", "1.2345", "999999999.9999", "-999999999.9999",
            "123456789.0", "10.01", "-10.0000");
        own(TEXT, "1.", "-1.", ".", "-.", ".5", "-.5", "1.23456", "0.00000", "1234567890.5", "-1234567890.5", "00.5", "01.5",
            "-01.5", "1.5.5", "1..5", "1.-5", "1.5-", "1.+5", "1. 5", "1.5 ", "1,5", "1.a", "a.1", "1.5e", "1./", "1.:", "--1.5");
    }

    private static void dates() {
        term(2, "DATE: four digits (1600 .. 9999), \"-\", two (a month), \"-\", two (a day that there is, by leap years as now);");
        for (int year : new int[] {1600, 1601, 1700, 1900, 1970, 2000, 2023, 2024, 2100, 2400, 9996, 9999}) {
            for (int month = 1; month <= 12; month++) {
                int last = LocalDate.of(year, month, 1).lengthOfMonth();
                dateOrText(year, month, last);
                due(year + " " + month + ", no such day", column(day(year, month, last + 1)).cell(0, 0, 0, 0), TEXT);
                dateOrText(year, month, 1);
                due(year + " " + month + ", day 0", column(day(year, month, 0)).cell(0, 0, 0, 0), TEXT);
            }
        }
        own(TEXT, "1599-12-31", "0000-01-01", "0999-01-01", "2024-00-10", "2024-13-10", "2024-99-10", "2024-01-32", "2024-01-99",
            "1900-02-29", "2100-02-29", "2023-02-29", "2024-02-30");
        own(DATE, "1600-02-29", "2000-02-29", "2024-02-29", "2400-02-29", "1600-01-01", "9999-12-31");
        term(2, "else TEXT.");
        own(TEXT, "2024-1-10", "2024-01-1", "224-01-10", "12024-01-10", "2024-01-100", "2024/01/10", "2024-01/10", "2024/01-10",
            "-2024-01-10", "-024-01-10", "2024-01-10 ", " 2024-01-10", "2024-0a-10", "2024-01-a0", "202a-01-10", "a024-01-10",
            "2024-01-0:", "2024-0:-10", "202:-01-10", "2024-01-1/", "2024-/1-10", "/024-01-10", "2024-01", "~", "a b");
    }

    private static String day(int year, int month, int day) {
        return String.format("%04d-%02d-%02d", year, month, day);
    }

    private static void dateOrText(int year, int month, int day) {
        TypedTables x = column(day(year, month, day));
        due("own type of " + day(year, month, day), x.cell(0, 0, 0, 0), DATE);
        due("days of " + day(year, month, day), x.value(0, 0, 0), LocalDate.of(year, month, day).toEpochDay());
    }

    private static void joins() {
        term(2, "JOIN of two: alike: that; EMPTY and another: that; INT and FIXED: FIXED; else TEXT.");
        int[][] want = {
            {EMPTY, BOOL, INT, FIXED, DATE, TEXT},
            {BOOL, BOOL, TEXT, TEXT, TEXT, TEXT},
            {INT, TEXT, INT, FIXED, TEXT, TEXT},
            {FIXED, TEXT, FIXED, FIXED, TEXT, TEXT},
            {DATE, TEXT, TEXT, TEXT, DATE, TEXT},
            {TEXT, TEXT, TEXT, TEXT, TEXT, TEXT}};
        for (int one = EMPTY; one <= TEXT; one++) {
            for (int other = EMPTY; other <= TEXT; other++) {
                due("join of " + one + " and " + other, column(OF[one], OF[other]).column(0, 0, 1), want[one][other]);
            }
        }
    }

    private static void guesses() {
        term(2, "GUESS of a COLUMN: JOIN of its CELLS' (EMPTY without ROWS).");
        due("without rows", column().column(0, 0, 1), EMPTY);
        due("of the first alone", column("1").column(0, 0, 1), INT);
        due("of the last, too", column("1", "", "1", "x").column(0, 0, 1), TEXT);
        due("of the first, too", column("x", "1", "1", "1").column(0, 0, 1), TEXT);
        TypedTables x = column("1", "1.5");
        due("guess", x.column(0, 0, 1), FIXED);
        x.cut(0, 0, 1);
        due("of all cells, not of a view", x.column(0, 0, 1), FIXED);
        x.out(0, 1);
        due("of those that are left", x.column(0, 0, 1), INT);
        x.out(0, 0);
        due("none is left", x.column(0, 0, 1), EMPTY);
    }

    private static void proofs() {
        term(2, "PROOF: the ROWS at which JOIN of all CELLS so far (from EMPTY on) becomes another one.");
        due("without rows", column().column(0, 0, 4), 0);
        due("without bytes", column("", "").column(0, 0, 4), 0);
        provedBy("0 2", "1", "2");
        provedBy("1 2", "", "1", "2");
        provedBy("0 2 1 3", "1", "2.5", "3");
        provedBy("0 3", "2.5", "1", "");
        provedBy("1 2 3 3 5 5", "", "1", "", "1.5", "2", "x", "yes", "3");
        provedBy("0 1 1 5", "yes", "1");
        provedBy("0 5", "x", "1", "yes");
        provedBy("0 4 2 5", "2024-01-01", "", "1");
    }

    private static void provedBy(String want, String... cells) {
        TypedTables x = column(cells);
        StringBuilder got = new StringBuilder();
        for (int i = 0; i < x.column(0, 0, 4); i++) {
            got.append(i == 0 ? "" : " ").append(x.proof(0, 0, i, 0)).append(" ").append(x.proof(0, 0, i, 1));
        }
        due("proof", got.toString(), want);
    }

    private static void holds() {
        term(2, "A TYPE HOLDS a CELL, if its JOIN with the CELL's own is that TYPE.");
        String[] heldBy = {"0 1 2 3 4 5", "1 5", "2 3 5", "3 5", "4 5", "5"};
        for (int own = EMPTY; own <= TEXT; own++) {
            for (int type = EMPTY; type <= TEXT; type++) {
                boolean held = heldBy[own].contains("" + type);
                due("type " + type + " holds " + own, column(OF[own]).against(0, 0, type), held ? -1 : 0);
            }
        }
    }

    private static void toldTypes() {
        term(2, "TOLD may be a TYPE that HOLDS all CELLS of a COLUMN;");
        due("all", column("1", "", "2").type(0, 0, INT), true);
        due("all", column("1", "2.5", "").type(0, 0, FIXED), true);
        due("all but the last", column("1", "2", "x").type(0, 0, INT), false);
        due("all but the first", column("x", "1", "2").type(0, 0, INT), false);
        due("without rows", column().type(0, 0, BOOL), true);
        TypedTables x = column("1", "x");
        x.cut(0, 0, 1);
        due("of all cells, not of a view", x.type(0, 0, INT), false);
    }

    private static void typeOfColumn() {
        term(2, "TYPE of a COLUMN: TOLD, else GUESS.");
        TypedTables x = column("1");
        due("guess", x.column(0, 0, 0), INT);
        x.type(0, 0, FIXED);
        due("told", x.column(0, 0, 0), FIXED);
        due("the guess stays", x.column(0, 0, 1), INT);
        x.type(0, 0, -1);
        due("guess", x.column(0, 0, 0), INT);
        TypedTables y = made("a\n");
        y.type(0, 0, DATE);
        due("told without rows", y.column(0, 0, 0), DATE);
        due("guess without rows", y.column(0, 0, 1), EMPTY);
    }

    private static void takesOnlyHeld() {
        term(2, "A COLUMN with a TOLD TYPE takes only CELLS that it HOLDS.");
        String[] heldBy = {"0 1 2 3 4 5", "1 5", "2 3 5", "3 5", "4 5", "5"};
        for (int told = BOOL; told <= TEXT; told++) {
            for (int own = EMPTY; own <= TEXT; own++) {
                boolean held = heldBy[own].contains("" + told);
                TypedTables x = column("");
                due("told", x.type(0, 0, told), true);
                due("put " + own + " under " + told, put(x, 0, 0, 0, OF[own]), held);
                due("it is there or not", cell(x, 0, 0, 0), held ? OF[own] : "");
                due("row " + own + " under " + told, row(x, 0, "\"" + OF[own] + "\"") == 2, held);
            }
        }
    }

    private static void values() {
        term(2, "VALUE of a CELL by the COLUMN's TYPE: none of no bytes; BOOL 1, 0; INT the number; FIXED 10000 times it; DATE days"
            + " from 1970-01-01 on; of TEXT the bytes.");
        due("none of no bytes", column("", "1").value(0, 0, 0), NO_NUMBER);
        valued(1, BOOL, "yes", "true");
        valued(0, BOOL, "no", "false");
        valued(0, INT, "0");
        valued(999999999, INT, "999999999");
        valued(-999999999, INT, "-999999999");
        valued(9999999999999L, FIXED, "999999999.9999");
        valued(-9999999999999L, FIXED, "-999999999.9999");
        valued(9999999990000L, FIXED, "999999999", "999999999.0", "999999999.0000");
        valued(1, FIXED, "0.0001");
        valued(-1, FIXED, "-0.0001");
        valued(0, FIXED, "0", "0.0", "-0.0", "-0.0000");
        valued(-5000, FIXED, "-0.5", "-0.50", "-0.5000");
        valued(0, DATE, "1970-01-01");
        valued(1, DATE, "1970-01-02");
        valued(-1, DATE, "1969-12-31");
        valued(LocalDate.of(1600, 1, 1).toEpochDay(), DATE, "1600-01-01");
        valued(LocalDate.of(9999, 12, 31).toEpochDay(), DATE, "9999-12-31");
        valued(1, TEXT, "x", "1", " ", "\n");
        valued(20, TEXT, TWENTY);
        valued(10, TEXT, "1970-01-01");
        valued(3, TEXT, "yes", "1.5");
    }

    private static void valued(long want, int type, String... cells) {
        for (String cell : cells) {
            TypedTables x = column(cell);
            due("told", x.type(0, 0, type), true);
            due("value of <" + cell + "> as " + type, x.value(0, 0, 0), want);
        }
    }

    private static void lessAndAlike() {
        term(2, "They are less, alike by these (TEXT byte by byte; one that is the begin of another is less).");
        ascending(INT, "-10", "-9", "0", "2", "10", "999999999");
        ascending(FIXED, "-10", "-9.9999", "-0.0001", "0", "0.0001", "1", "1.0001", "1.5", "999999999.9999");
        ascending(BOOL, "no", "yes");
        ascending(DATE, "1600-01-01", "1969-12-31", "1970-01-01", "1970-02-01", "9999-12-31");
        ascending(TEXT, "\n", " ", "10", "2", "A", "Z", "a", "aa", "ab", "b", "ba", "~", TWENTY.replace('1', '~'));
        alike(FIXED, "1", "1.0", "1.0000");
        alike(BOOL, "yes", "true");
        alike(BOOL, "no", "false");
        alike(FIXED, "-0.0", "0", "0.00");
        due("as TEXT they are unlike", unlikeText("1", "1.0"), 2);
        due("as TEXT they are unlike", unlikeText("yes", "true"), 1);
    }

    private static int unlikeText(String one, String other) {
        TypedTables x = column(one, other);
        due("told", x.type(0, 0, TEXT), true);
        return x.compare(0, 0, 0, 1);
    }

    private static void ascending(int type, String... cells) {
        TypedTables x = column(cells);
        due("told", x.type(0, 0, type), true);
        for (int i = 0; i < cells.length; i++) {
            for (int j = 0; j < cells.length; j++) {
                due(cells[i] + " and " + cells[j], x.compare(0, 0, i, j), i == j ? 0 : i > j ? 1 : 2);
            }
        }
    }

    private static void alike(int type, String... cells) {
        TypedTables x = column(cells);
        due("told", x.type(0, 0, type), true);
        for (int i = 0; i < cells.length; i++) {
            due(cells[0] + " and " + cells[i], x.compare(0, 0, 0, i), 0);
        }
    }

    // ---- promises 7 and 12

    private static void put() {
        promise(7, "THE TAPE becomes a CELL: true;");
        TypedTables x = made("a,b\n1,2\n3,4\n");
        due("put", put(x, 0, 1, 1, "x\n,\""), true);
        due("tape", x.look(8), 0);
        due("put", put(x, 0, 0, 0, ""), true);
        due("put", put(x, 0, 0, 1, TWENTY), true);
        due("cells", cells(x, 0), "!" + TWENTY + "/3!x\n,\"");
        due("the same once more is an act", put(x, 0, 0, 1, TWENTY), true);
        due("acts", x.look(7), 5);
    }

    private static void putRefused() {
        promise(7, "false if there is none such, it can't be one, or a TOLD TYPE does not HOLD it.");
        TypedTables x = made("a,b\n1,2\n3,4\n");
        int[][] none = {{1, 0, 0}, {3, 0, 0}, {-1, 0, 0}, {0, 2, 0}, {0, -1, 0}, {0, 0, 2}, {0, 0, -1}};
        for (int[] n : none) {
            due("none such", put(x, n[0], n[1], n[2], "9"), false);
            due("tape", x.look(8), 0);
        }
        for (int far : FAR) {
            due("none such", put(x, far, 0, 0, "9"), false);
            due("none such", put(x, 0, far, 0, "9"), false);
            due("none such", put(x, 0, 0, far, "9"), false);
        }
        for (String bad : new String[] {TWENTY + "1", "\t", "x" + (char) 127, (char) 31 + "", (char) 0 + "", "x" + (char) 255}) {
            due("no cell", put(x, 0, 0, 0, bad), false);
            due("tape", x.look(8), 0);
        }
        due("acts", x.look(7), 1);
        due("told", x.type(0, 0, INT), true);
        due("not held", put(x, 0, 0, 0, "1.5"), false);
        due("tape", x.look(8), 0);
        due("held", put(x, 0, 0, 0, "15"), true);
        due("another column", put(x, 0, 0, 1, "1.5"), true);
        due("cells", cells(x, 0), "15!1.5/3!4");
        due("acts", x.look(7), 4);
    }

    private static void type() {
        promise(12, "A TYPE is TOLD (1 .. 5; NONE: none is any more): true;");
        for (int type = BOOL; type <= TEXT; type++) {
            TypedTables x = column(OF[type], "");
            due("told " + type, x.type(0, 0, type), true);
            due("it is so", x.column(0, 0, 2), type);
            due("once more", x.type(0, 0, type), true);
            due("none", x.type(0, 0, -1), true);
            due("it is so", x.column(0, 0, 2), -1);
        }
        TypedTables y = column("1");
        y.type(0, 0, INT);
        due("another one", y.type(0, 0, TEXT), true);
        due("it is so", y.column(0, 0, 2), TEXT);
    }

    private static void typeRefused() {
        promise(12, "false if it does not HOLD all CELLS, it can't be, or (NONE) none is TOLD.");
        TypedTables x = column("1", "2.5");
        due("not all", x.type(0, 0, INT), false);
        due("EMPTY can't be", x.type(0, 0, EMPTY), false);
        due("EMPTY can't be without rows", made("a\n").type(0, 0, EMPTY), false);
        due("6 can't be", x.type(0, 0, 6), false);
        due("6 can't be without rows", made("a\n").type(0, 0, 6), false);
        for (int far : FAR) {
            due("can't be", x.type(0, 0, far), false);
            due("none such", x.type(far, 0, TEXT), false);
            due("none such", x.type(0, far, TEXT), false);
        }
        due("none such", x.type(0, 1, TEXT), false);
        due("none such", x.type(0, -1, TEXT), false);
        due("none such", x.type(1, 0, TEXT), false);
        due("none such", x.type(3, 0, TEXT), false);
        due("none is told", x.type(0, 0, -1), false);
        due("nothing is told", x.column(0, 0, 2), -1);
        due("acts", x.look(7), 3);
        due("told", x.type(0, 0, FIXED), true);
        due("refused", x.type(0, 0, BOOL), false);
        due("it stays", x.column(0, 0, 2), FIXED);
        due("none any more", x.type(0, 0, -1), true);
        due("none is told", x.type(0, 0, -1), false);
    }

    // ---- promises 22 to 30

    private static void columnLooks() {
        promise(22, "Of a COLUMN what 0 TYPE, 1 GUESS, 2 TOLD (NONE), 3 bytes of its NAME, 4 ROWS in its PROOF, 5 CELLS without bytes.");
        TypedTables x = made("first,twelve_bytes\n1,\n,\n2.5,x\n");
        int[][] want = {{3, 3, -1, 5, 2, 1}, {5, 5, -1, 12, 1, 2}};
        for (int c = 0; c < 2; c++) {
            for (int what = 0; what < 6; what++) {
                due("column " + c + " " + what, x.column(0, c, what), want[c][what]);
            }
        }
        x.type(0, 0, TEXT);
        due("type", x.column(0, 0, 0), TEXT);
        due("told", x.column(0, 0, 2), TEXT);
        due("proof", x.column(0, 0, 4), 2);
        promise(22, "NONE if there is none such, or another what.");
        for (int what : new int[] {-1, 6, -2, Integer.MIN_VALUE, Integer.MAX_VALUE}) {
            due("another what", x.column(0, 0, what), -1);
        }
        for (int what = 0; what < 6; what++) {
            due("none such", x.column(0, 2, what), -1);
            due("none such", x.column(0, -1, what), -1);
            due("none such", x.column(1, 0, what), -1);
            due("none such", x.column(3, 0, what), -1);
            due("none such", x.column(-1, 0, what), -1);
            due("none such", x.column(0, Integer.MAX_VALUE, what), -1);
        }
    }

    private static void nameAt() {
        promise(23, "Byte i of a NAME. NONE if there is none such.");
        TypedTables x = made("ab,abcdefghijkl\n");
        due("first", x.nameAt(0, 0, 0), 'a');
        due("last", x.nameAt(0, 0, 1), 'b');
        due("beyond", x.nameAt(0, 0, 2), -1);
        due("the 12th", x.nameAt(0, 1, 11), 'l');
        due("beyond", x.nameAt(0, 1, 12), -1);
        for (int none : new int[] {-1, -2, Integer.MIN_VALUE, Integer.MAX_VALUE}) {
            due("none such", x.nameAt(0, 0, none), -1);
            due("none such", x.nameAt(0, none, 0), -1);
            due("none such", x.nameAt(none, 0, 0), -1);
        }
        due("none such", x.nameAt(0, 2, 0), -1);
        due("none such", x.nameAt(1, 0, 0), -1);
        due("none such", x.nameAt(3, 0, 0), -1);
    }

    private static void find() {
        promise(24, "The COLUMN whose NAME THE TAPE is. NONE if there is none.");
        TypedTables x = made("a,ab,twelve_bytes\n");
        String[] told = {"a", "ab", "twelve_bytes"};
        for (int c = 0; c < 3; c++) {
            due("find", tape(x, told[c]).find(0), c);
            due("tape", x.look(8), 0);
        }
        for (String s : new String[] {"", "b", "A", "abc", "twelve_byte", "twelve_bytes_", "a ", "\t", "x".repeat(30), "a" + (char) 0}) {
            due("find <" + s + ">", tape(x, s).find(0), -1);
            due("tape", x.look(8), 0);
        }
        for (int t : new int[] {1, 3, -1, Integer.MAX_VALUE}) {
            due("no such table", tape(x, "a").find(t), -1);
            due("tape", x.look(8), 0);
        }
        name(x, 0, 0, "q");
        due("as it is now", tape(x, "q").find(0), 0);
        due("it was", tape(x, "a").find(0), -1);
    }

    private static void proof() {
        promise(25, "The i-th of a PROOF what 0 the ROW, 1 the TYPE that comes. NONE if there is none such, or another what.");
        TypedTables x = column("", "1", "1.5");
        due("row", x.proof(0, 0, 0, 0), 1);
        due("type", x.proof(0, 0, 0, 1), INT);
        due("row", x.proof(0, 0, 1, 0), 2);
        due("type", x.proof(0, 0, 1, 1), FIXED);
        for (int none : new int[] {-1, 2, -2, Integer.MIN_VALUE, Integer.MAX_VALUE}) {
            for (int what = 0; what < 2; what++) {
                due("none such", x.proof(0, 0, none, what), -1);
                due("none such", x.proof(0, none, 0, what), -1);
                due("none such", x.proof(none, 0, 0, what), -1);
            }
            due("another what", x.proof(0, 0, 0, none), -1);
        }
        due("none such", x.proof(0, 1, 0, 0), -1);
        due("none such", x.proof(3, 0, 0, 0), -1);
        due("none of no rows", made("a\n").proof(0, 0, 0, 0), -1);
        due("none of no bytes", column("").proof(0, 0, 0, 1), -1);
    }

    private static void against() {
        promise(26, "The first ROW whose CELL a TYPE (0 .. 5) does not HOLD. NONE if it HOLDS all, or one can't be.");
        TypedTables x = column("", "7", "7", "7.5", "x");
        int[] want = {1, 1, 3, 4, 1, -1};
        for (int type = EMPTY; type <= TEXT; type++) {
            due("against " + type, x.against(0, 0, type), want[type]);
        }
        due("EMPTY holds all", column("", "").against(0, 0, EMPTY), -1);
        due("no rows", made("a\n").against(0, 0, EMPTY), -1);
        due("the first row", column("x").against(0, 0, BOOL), 0);
        for (int none : new int[] {-1, 6, -2, Integer.MIN_VALUE, Integer.MAX_VALUE}) {
            due("can't be", x.against(0, 0, none), -1);
            due("none such", x.against(0, none, INT), -1);
            due("none such", x.against(none, 0, INT), -1);
        }
        due("none such", x.against(0, 1, INT), -1);
        due("none such", x.against(1, 0, INT), -1);
        due("none such", x.against(3, 0, INT), -1);
        x.order(0, 0, true);
        due("by rows, not by a view", x.against(0, 0, INT), 3);
    }

    private static void cell() {
        promise(27, "Of a CELL what 0 its own TYPE, 1 how many bytes, 2 whether it must be written in quotes (1, 0).");
        TypedTables x = made("a,b\n7,x\n");
        put(x, 0, 0, 1, "x,\"" + "y".repeat(17));
        due("own type, not the column's", x.cell(0, 0, 0, 0), INT);
        x.type(0, 0, TEXT);
        due("own type, not the column's", x.cell(0, 0, 0, 0), INT);
        due("bytes", x.cell(0, 0, 1, 1), 20);
        due("plain", x.cell(0, 0, 0, 2), 0);
        due("in quotes", x.cell(0, 0, 1, 2), 1);
        put(x, 0, 0, 0, "");
        due("no bytes", x.cell(0, 0, 0, 1), 0);
        due("no bytes", x.cell(0, 0, 0, 0), EMPTY);
        due("not the only one", x.cell(0, 0, 0, 2), 0);
        x.away(0, 1);
        due("the only one", x.cell(0, 0, 0, 2), 1);
        promise(27, "NONE if there is none such, or another what.");
        for (int what = 0; what < 3; what++) {
            due("none such", x.cell(0, 1, 0, what), -1);
            due("none such", x.cell(0, 0, 1, what), -1);
            due("none such", x.cell(1, 0, 0, what), -1);
            due("none such", x.cell(3, 0, 0, what), -1);
            for (int none : new int[] {-1, -2, Integer.MIN_VALUE, Integer.MAX_VALUE}) {
                due("none such", x.cell(none, 0, 0, what), -1);
                due("none such", x.cell(0, none, 0, what), -1);
                due("none such", x.cell(0, 0, none, what), -1);
            }
        }
        for (int what : new int[] {-1, 3, -2, Integer.MIN_VALUE, Integer.MAX_VALUE}) {
            due("another what", x.cell(0, 0, 0, what), -1);
        }
    }

    private static void cellAt() {
        promise(28, "Byte i of a CELL. NONE if there is none such.");
        TypedTables x = made("a,b\n~x,\n");
        put(x, 0, 0, 1, TWENTY.substring(1) + "\n");
        due("first", x.cellAt(0, 0, 0, 0), '~');
        due("last", x.cellAt(0, 0, 0, 1), 'x');
        due("beyond", x.cellAt(0, 0, 0, 2), -1);
        due("the 20th", x.cellAt(0, 0, 1, 19), 10);
        due("beyond", x.cellAt(0, 0, 1, 20), -1);
        for (int none : new int[] {-1, -2, Integer.MIN_VALUE, Integer.MAX_VALUE}) {
            due("none such", x.cellAt(0, 0, 0, none), -1);
            due("none such", x.cellAt(none, 0, 0, 0), -1);
            due("none such", x.cellAt(0, none, 0, 0), -1);
            due("none such", x.cellAt(0, 0, none, 0), -1);
        }
        due("none such", x.cellAt(0, 1, 0, 0), -1);
        due("none such", x.cellAt(0, 0, 2, 0), -1);
        due("none such", x.cellAt(1, 0, 0, 0), -1);
        due("none such", x.cellAt(3, 0, 0, 0), -1);
        put(x, 0, 0, 0, "");
        due("no bytes", x.cellAt(0, 0, 0, 0), -1);
    }

    private static void value() {
        promise(29, "VALUE of a CELL (TEXT: how many bytes).");
        TypedTables x = made("a,b,c\n7,x,\n7.5,xyz,\n");
        due("by the column's type", x.value(0, 0, 0), 70000);
        due("of the row", x.value(0, 1, 0), 75000);
        due("TEXT", x.value(0, 0, 1), 1);
        due("TEXT", x.value(0, 1, 1), 3);
        promise(29, "NONE - 99999999999999 if it has no bytes, or there is none such.");
        due("no bytes", x.value(0, 0, 2), NO_NUMBER);
        x.type(0, 2, TEXT);
        due("no bytes of TEXT", x.value(0, 0, 2), NO_NUMBER);
        for (int none : new int[] {-1, 3, -2, Integer.MIN_VALUE, Integer.MAX_VALUE}) {
            due("none such", x.value(none, 0, 0), NO_NUMBER);
            due("none such", x.value(0, none, 0), NO_NUMBER);
            due("none such", x.value(0, 0, none), NO_NUMBER);
        }
        due("none such", x.value(1, 0, 0), NO_NUMBER);
        due("none such", x.value(0, 2, 0), NO_NUMBER);
        due("none - 99999999999999", NO_NUMBER, TypedTables.NONE - 99999999999999L);
    }

    private static void compare() {
        promise(30, "Whether the CELL of a ROW is like (0) that of another ROW, greater (1), less (2);");
        TypedTables x = made("a,b\n2,b\n10,a\n,\n2.0,\n");
        due("less", x.compare(0, 0, 0, 1), 2);
        due("greater", x.compare(0, 0, 1, 0), 1);
        due("like", x.compare(0, 0, 0, 3), 0);
        due("like itself", x.compare(0, 0, 1, 1), 0);
        due("of the column", x.compare(0, 1, 0, 1), 1);
        promise(30, "a CELL without bytes is less than each with, like another one without.");
        due("less", x.compare(0, 0, 2, 0), 2);
        due("greater", x.compare(0, 0, 0, 2), 1);
        due("like", x.compare(0, 1, 2, 3), 0);
        due("like itself", x.compare(0, 0, 2, 2), 0);
        put(x, 0, 0, 0, "-999999999.9999");
        due("less than the least", x.compare(0, 0, 2, 0), 2);
        put(x, 0, 0, 1, "\n");
        due("less than the least", x.compare(0, 1, 2, 0), 2);
        promise(30, "NONE if there are none such.");
        for (int none : new int[] {-1, 4, -2, Integer.MIN_VALUE, Integer.MAX_VALUE}) {
            due("none such", x.compare(none, 0, 0, 1), -1);
            due("none such", x.compare(0, none, 0, 1), -1);
            due("none such", x.compare(0, 0, none, 1), -1);
            due("none such", x.compare(0, 0, 0, none), -1);
        }
        due("none such", x.compare(1, 0, 0, 1), -1);
        due("none such", x.compare(3, 0, 0, 1), -1);
        due("none such", x.compare(0, 2, 0, 1), -1);
    }
}
