/** Promises 12 and 21 to 30: types guessed, proved and told, cells and their values. */
public final class TypesTest {
    public static void main(String[] args) {
        ownTypes();
        dates();
        joins();
        proofs();
        against();
        told();
        table();
        names();
        cells();
        values();
        compare();
        Check.finish();
    }

    private static void due(String call, long got, long want) {
        Check.due(call, got, want);
    }

    /** A TABLE of one COLUMN with these CELLS. */
    private static TypedTables column(String... cells) {
        TypedTables x = new TypedTables();
        Check.read(x, 0, "a\n");
        for (String cell : cells) {
            Check.row(x, 0, "\"" + cell.replace("\"", "\"\"") + "\"");
        }
        due("rows", x.table(0, 1), cells.length);
        return x;
    }

    private static void own(int type, String... cells) {
        TypedTables x = column("");
        for (String cell : cells) {
            Check.due("put " + cell, Check.put(x, 0, 0, 0, cell), true);
            due("own type of <" + cell + ">", x.cell(0, 0, 0, 0), type);
            due("guess of <" + cell + ">", x.column(0, 0, 1), type);
        }
    }

    private static void ownTypes() {
        own(0, "");
        own(1, "yes", "no", "true", "false");
        own(2, "0", "1", "-1", "999999999", "-999999999", "10");
        own(3, "0.0", "-0.5", "-0.0", "1.5", "999999999.9999", "-999999999.0001", "10.10");
        own(5, "Yes", "NO", "yes ", " no", "tru", "truee", "1234567890", "007", "00", "-0", "-", "+1", "1 ", " 1",
            "-007", "1.", ".5", "-.5", "1.23456", "1.2.3", "1,5", "01.5", "1234567890.1", "1.5-", "--1", "1e5", "1-", ".", "\n");
    }

    private static void dates() {
        own(4, "1970-01-01", "1600-01-01", "9999-12-31", "2024-02-29", "2000-02-29", "1600-02-29", "2023-12-31", "2023-04-30");
        own(5, "1599-12-31", "2023-02-29", "1900-02-29", "2100-02-29", "2023-04-31", "2023-00-01", "2023-13-01", "2023-01-00",
            "2023-01-32", "2023-1-01", "2023-01-1", "02023-01-01", "2023/01/01", "2023-01-011", "2023-01-1 ", "-023-01-01",
            "2023-+1-01", "2023-01-0x", "20x3-01-01", "2023-01x01");
        String[] text = {"1970-01-01", "1970-01-02", "1969-12-31", "2000-02-29", "2000-03-01", "1600-01-01", "9999-12-31", "2024-12-31", "2023-03-01", "1900-03-01"};
        TypedTables x = column(text);
        for (int r = 0; r < text.length; r++) {
            due("days of " + text[r], x.value(0, r, 0), java.time.LocalDate.parse(text[r]).toEpochDay());
        }
    }

    private static void guess(int type, String... cells) {
        due("guess", column(cells).column(0, 0, 1), type);
    }

    private static void joins() {
        guess(0);
        guess(0, "", "");
        guess(1, "yes", "", "false");
        guess(2, "", "1", "2");
        guess(3, "1", "1.5");
        guess(3, "1.5", "", "1");
        guess(5, "1", "yes");
        guess(5, "2024-01-01", "1");
        guess(5, "yes", "2024-01-01");
        guess(5, "1.5", "true");
        guess(5, "x", "1", "");
        guess(4, "2024-01-01", "");
    }

    private static void proofs() {
        TypedTables x = column("", "1", "2", "", "1.5", "3", "x", "yes");
        due("size", x.column(0, 0, 4), 3);
        int[][] proof = {{1, 2}, {4, 3}, {6, 5}};
        for (int i = 0; i < 3; i++) {
            due("row", x.proof(0, 0, i, 0), proof[i][0]);
            due("type", x.proof(0, 0, i, 1), proof[i][1]);
        }
        due("beyond", x.proof(0, 0, 3, 0), -1);
        due("beyond", x.proof(0, 0, -1, 0), -1);
        due("another what", x.proof(0, 0, 0, 2), -1);
        due("another what", x.proof(0, 0, 0, -1), -1);
        due("none such", x.proof(0, 1, 0, 0), -1);
        due("none such", x.proof(1, 0, 0, 0), -1);
        due("none", column("", "").column(0, 0, 4), 0);
        due("none", column().column(0, 0, 4), 0);
        TypedTables y = column("yes", "1");
        due("size", y.column(0, 0, 4), 2);
        due("type", y.proof(0, 0, 1, 1), 5);
        Check.due("told", y.type(0, 0, 5), true);
        due("a proof is of the guess", y.column(0, 0, 4), 2);
        y.order(0, 0, false);
        due("of rows, not of a view", y.proof(0, 0, 0, 1), 1);
    }

    private static void against() {
        TypedTables x = column("", "1", "1.5", "yes");
        int[] first = {1, 1, 2, 3, 1, -1};
        for (int type = 0; type < 6; type++) {
            due("against " + type, x.against(0, 0, type), first[type]);
        }
        due("no type", x.against(0, 0, 6), -1);
        due("no type", x.against(0, 0, -1), -1);
        due("none such", x.against(0, 1, 1), -1);
        due("none such", x.against(1, 0, 1), -1);
        due("held", column("", "2024-01-01").against(0, 0, 4), -1);
        due("FIXED holds INT", column("1", "").against(0, 0, 3), -1);
        due("INT holds no FIXED", column("1.0").against(0, 0, 2), 0);
    }

    private static void told() {
        TypedTables x = column("1", "", "2");
        due("none", x.column(0, 0, 2), -1);
        Check.due("none is told", x.type(0, 0, -1), false);
        for (int type : new int[] {0, 1, 4, 6, -2, Integer.MAX_VALUE}) {
            Check.due("type " + type, x.type(0, 0, type), false);
        }
        due("no act", x.look(7), 4);
        Check.due("FIXED", x.type(0, 0, 3), true);
        due("type", x.column(0, 0, 0), 3);
        due("guess", x.column(0, 0, 1), 2);
        due("told", x.column(0, 0, 2), 3);
        due("value", x.value(0, 0, 0), 10000);
        Check.due("put", Check.put(x, 0, 0, 0, "x"), false);
        Check.due("put", Check.put(x, 0, 0, 0, "2.5"), true);
        Check.due("INT no more", x.type(0, 0, 2), false);
        due("told", x.column(0, 0, 2), 3);
        Check.due("TEXT", x.type(0, 0, 5), true);
        due("value", x.value(0, 0, 0), 3);
        Check.due("none any more", x.type(0, 0, -1), true);
        due("told", x.column(0, 0, 2), -1);
        due("type", x.column(0, 0, 0), 3);
        Check.due("BOOL", column("yes", "").type(0, 0, 1), true);
        Check.due("DATE", column("2024-01-01").type(0, 0, 4), true);
        Check.due("none such", x.type(0, 1, 5), false);
        Check.due("none such", x.type(0, -1, 5), false);
        Check.due("none such", x.type(1, 0, 5), false);
        Check.due("without rows", column().type(0, 0, 4), true);
        due("read again it is gone", Check.read(x, 0, "a\n1\n"), 1);
        due("told", x.column(0, 0, 2), -1);
    }

    private static void table() {
        TypedTables x = new TypedTables();
        Check.read(x, 1, "a,b\nxyz,\n1,22\n");
        x.cut(1, 0, 1);
        int[] all = {2, 2, 1, 6};
        for (int what = 0; what < 4; what++) {
            due("table " + what, x.table(1, what), all[what]);
        }
        due("another what", x.table(1, 4), -1);
        due("another what", x.table(1, -1), -1);
        due("none such", x.table(0, 0), -1);
        due("none such", x.table(3, 0), -1);
        int[] column = {5, 5, -1, 1, 1, 0};
        for (int what = 0; what < 6; what++) {
            due("column " + what, x.column(1, 0, what), column[what]);
        }
        due("without bytes", x.column(1, 1, 5), 1);
        due("another what", x.column(1, 0, 6), -1);
        due("another what", x.column(1, 0, -1), -1);
        due("none such", x.column(1, 2, 0), -1);
        due("none such", x.column(1, -1, 0), -1);
        due("none such", x.column(0, 0, 0), -1);
    }

    private static void names() {
        TypedTables x = new TypedTables();
        Check.read(x, 0, "ab,c_1\n");
        due("byte", x.nameAt(0, 0, 0), 'a');
        due("byte", x.nameAt(0, 1, 2), '1');
        due("beyond", x.nameAt(0, 1, 3), -1);
        due("beyond", x.nameAt(0, 1, -1), -1);
        due("none such", x.nameAt(0, 2, 0), -1);
        due("none such", x.nameAt(1, 0, 0), -1);
        due("find", Check.tape(x, "c_1").find(0), 1);
        due("the tape is empty then", x.look(8), 0);
        due("find", Check.tape(x, "ab").find(0), 0);
        due("find", Check.tape(x, "a").find(0), -1);
        due("find", Check.tape(x, "abc").find(0), -1);
        due("find", Check.tape(x, "AB").find(0), -1);
        due("find", Check.tape(x, "123456789012345678901234").find(0), -1);
        due("the tape is empty then", x.look(8), 0);
        due("find nothing", x.find(0), -1);
        due("none such", Check.tape(x, "ab").find(1), -1);
        due("the tape is empty then", x.look(8), 0);
    }

    private static void cells() {
        TypedTables x = new TypedTables();
        Check.read(x, 0, "a,b\nxy,1.5\n");
        due("own type", x.cell(0, 0, 1, 0), 3);
        due("bytes", x.cell(0, 0, 0, 1), 2);
        due("quotes", x.cell(0, 0, 0, 2), 0);
        due("another what", x.cell(0, 0, 0, 3), -1);
        due("another what", x.cell(0, 0, 0, -1), -1);
        int[][] none = {{0, 1, 0}, {0, -1, 0}, {0, 0, 2}, {0, 0, -1}, {1, 0, 0}, {3, 0, 0}};
        for (int[] n : none) {
            due("none such", x.cell(n[0], n[1], n[2], 0), -1);
            due("none such", x.cellAt(n[0], n[1], n[2], 0), -1);
            due("none such", x.value(n[0], n[1], n[2]), Check.NO_NUMBER);
        }
        due("byte", x.cellAt(0, 0, 0, 1), 'y');
        due("beyond", x.cellAt(0, 0, 0, 2), -1);
        due("beyond", x.cellAt(0, 0, 0, -1), -1);
    }

    private static void values() {
        String[] cells = {"1", "-0.5", "-0.0", "999999999.9999", "-999999999", "", "0.0001", "2.50"};
        long[] fixed = {10000, -5000, 0, 9999999999999L, -9999999990000L, Check.NO_NUMBER, 1, 25000};
        TypedTables x = column(cells);
        for (int r = 0; r < cells.length; r++) {
            due("FIXED " + cells[r], x.value(0, r, 0), fixed[r]);
        }
        TypedTables y = column("-999999999", "0", "");
        due("INT", y.value(0, 0, 0), -999999999);
        due("INT", y.value(0, 1, 0), 0);
        due("no bytes", y.value(0, 2, 0), Check.NO_NUMBER);
        TypedTables z = column("yes", "no", "true", "false");
        for (int r = 0; r < 4; r++) {
            due("BOOL", z.value(0, r, 0), 1 - r % 2);
        }
        TypedTables w = column("yes", "12", "2024-01-01");
        due("TEXT", w.value(0, 0, 0), 3);
        due("TEXT", w.value(0, 1, 0), 2);
        due("TEXT", w.value(0, 2, 0), 10);
        due("EMPTY", column("").value(0, 0, 0), Check.NO_NUMBER);
    }

    private static void compare() {
        TypedTables x = column("2", "10", "2.0", "", "", "-3");
        due("less", x.compare(0, 0, 0, 1), 2);
        due("greater", x.compare(0, 0, 1, 0), 1);
        due("like", x.compare(0, 0, 0, 2), 0);
        due("like itself", x.compare(0, 0, 0, 0), 0);
        due("no bytes are less", x.compare(0, 0, 3, 5), 2);
        due("no bytes are less", x.compare(0, 0, 5, 3), 1);
        due("no bytes are like", x.compare(0, 0, 3, 4), 0);
        int[][] none = {{0, 0, 6, 0}, {0, 0, 0, 6}, {0, 0, -1, 0}, {0, 0, 0, -1}, {0, 1, 0, 0}, {1, 0, 0, 0}};
        for (int[] n : none) {
            due("none such", x.compare(n[0], n[1], n[2], n[3]), -1);
        }
        Check.due("type", x.type(0, 0, 5), true);
        due("as TEXT", x.compare(0, 0, 0, 1), 1);
        due("a begin is less", x.compare(0, 0, 0, 2), 2);
        TypedTables y = column("a", "ab", "B", "\n", " ");
        due("a begin is less", y.compare(0, 0, 0, 1), 2);
        due("by bytes", y.compare(0, 0, 0, 2), 1);
        due("by bytes", y.compare(0, 0, 3, 4), 2);
        TypedTables z = column("yes", "true", "no");
        due("BOOL", z.compare(0, 0, 0, 1), 0);
        due("BOOL", z.compare(0, 0, 2, 1), 2);
    }
}
