/** Promises 27 (quotes), 35 and 36: written as a text that is read again alike. */
public final class WriteTest {
    public static void main(String[] args) {
        plain();
        quotes();
        views();
        room();
        nothing();
        again();
        Check.finish();
    }

    private static void due(String call, long got, long want) {
        Check.due(call, got, want);
    }

    private static void plain() {
        TypedTables x = Check.made("\"a\",b\n\n1 ,\"2\"\n,'\n");
        Check.due("written", Check.written(x, 0), "a,b\n1 ,2\n,'\n");
        x.dialect(2, 0);
        Check.due("without HEADER", Check.written(x, 0), "1 ,2\n,'\n");
        x.dialect(0, 9);
        Check.due("by the dialect", Check.written(x, 0), "1 \t2\n\t'\n");
        due("beyond", x.sign(8), -1);
        due("last", x.sign(7), 10);
        due("below", x.sign(-1), -1);
        due("first", x.sign(0), '1');
        Check.due("a header alone", Check.written(Check.made("a,b\n"), 0), "a,b\n");
        TypedTables y = Check.made("a\n");
        y.dialect(2, 0);
        due("nothing at all", y.write(0), 0);
        due("nothing at all", y.sign(0), -1);
    }

    private static void quoted(String cell, int column, String want, int... dialect) {
        TypedTables x = Check.made(column < 0 ? "a\nx\n" : "a,b\nx,y\n");
        int c = Math.max(0, column);
        Check.put(x, 0, 0, c, cell);
        for (int i = 0; i + 1 < dialect.length; i += 2) {
            x.dialect(dialect[i], dialect[i + 1]);
        }
        due("quotes of <" + cell + ">", x.cell(0, 0, c, 2), want.equals(cell) ? 0 : 1);
        String sep = "" + (char) x.look(0);
        String line = column < 0 ? want : c == 0 ? want + sep + "y" : "x" + sep + want;
        Check.due("written <" + cell + ">", Check.written(x, 0), (column < 0 ? "a" : "a" + sep + "b") + "\n" + line + "\n");
    }

    private static void quotes() {
        quoted("p,q", 0, "\"p,q\"");
        quoted("p,q", 0, "p,q", 0, 59);
        quoted("p;q", 1, "\"p;q\"", 0, 59);
        quoted("p|q", 1, "\"p|q\"", 0, 124);
        quoted("p\"q\"", 1, "\"p\"\"q\"\"\"");
        quoted("p\"q", 1, "p\"q", 1, 39);
        quoted("it's", 1, "'it''s'", 1, 39);
        quoted("it's", 1, "it's");
        quoted("p\nq", 1, "\"p\nq\"");
        quoted(" p", 1, " p");
        quoted(" p", 1, "\" p\"", 3, 1);
        quoted("p ", 0, "\"p \"", 3, 1);
        quoted("p q", 0, "p q", 3, 1);
        quoted("#p", 0, "#p");
        quoted("#p", 0, "\"#p\"", 5, 35);
        quoted("#p", 1, "#p", 5, 35);
        quoted("p#", 0, "p#", 5, 35);
        quoted("%", 0, "%", 5, 35);
        quoted("%", 0, "\"%\"", 5, 37);
        quoted("*", -1, "\"*\"", 5, 42);
        quoted("", 0, "");
        quoted("", 1, "");
        quoted("", -1, "\"\"");
        quoted("", -1, "''", 1, 39);
    }

    private static void views() {
        TypedTables x = Check.made("a,b\n1,x\n2,y\n3,z\n");
        x.order(0, 0, true);
        x.cut(0, 0, 2);
        Check.due("the top view", Check.written(x, 0), "a,b\n3,z\n2,y\n");
        Check.due("the tape and the table stay", Check.cells(x, 0), "1!x/2!y/3!z");
        due("views", x.table(0, 2), 2);
    }

    /** Each LINE has 8 CELLS of 20 bytes: 168 bytes; behind the 16 of the names 35 LINES are 5880, 36 are 6048. */
    private static void room() {
        TypedTables x = Check.made("a,b,c,d,e,f,g,h\n");
        String cell = "abcdefghijklmnopqrst";
        String line = (cell + ",").repeat(7) + cell;
        for (int i = 0; i < 37; i++) {
            Check.row(x, 0, line);
        }
        due("as many whole lines", x.write(0), 16 + 35 * 168);
        due("last", x.sign(16 + 35 * 168 - 1), 10);
        due("beyond", x.sign(16 + 35 * 168), -1);
        Check.put(x, 0, 35, 0, "\"\"\"\"");
        x.dialect(2, 0);
        due("as many whole lines", x.write(0), 35 * 168);
        x.cut(0, 35, 1);
        due("a line", x.write(0), 168 - 20 + 10);
        exactRoom(x);
    }

    /** 35 LINES of 168 bytes and one of 120 are 6000; one of 121 is too long, and what is behind it is not written. */
    private static void exactRoom(TypedTables x) {
        x.back(0);
        for (int c = 0; c < 8; c++) {
            Check.put(x, 0, 35, c, c < 5 ? "abcdefghijklmnopqrst" : c == 5 ? "abcdefghijkl" : "");
        }
        due("exactly", x.write(0), 6000);
        due("last", x.sign(5999), 10);
        due("beyond", x.sign(6000), -1);
        Check.put(x, 0, 35, 7, "1");
        for (int c = 0; c < 8; c++) {
            Check.put(x, 0, 36, c, "");
        }
        due("a line too long ends it", x.write(0), 35 * 168);
    }

    private static void nothing() {
        TypedTables x = Check.made("a\n1\n");
        due("nothing was written", x.sign(0), -1);
        due("written", x.write(0), 4);
        due("no such table", x.write(1), -1);
        due("no such table", x.write(3), -1);
        due("no such table", x.write(-1), -1);
        due("what was written last", x.sign(2), '1');
        x.out(0, 0);
        due("what was written last", x.sign(2), '1');
    }

    private static void again() {
        String[] cells = {"", " ", "a,b", "#", "\"", "'", "\n", " x ", "\"\"", "%1", "*", "a;b", "x|y", "\n\n", "yes"};
        for (int sep : new int[] {44, 59, 124, 9}) {
            for (int quote : new int[] {34, 39}) {
                for (int rest = 0; rest < 8; rest++) {
                    TypedTables x = Check.made("a,b\n");
                    for (int i = 0; i < cells.length; i++) {
                        Check.row(x, 0, "x,y");
                        Check.put(x, 0, i, i % 2, cells[i]);
                    }
                    x.dialect(0, sep);
                    x.dialect(1, quote);
                    x.dialect(2, rest & 1);
                    x.dialect(3, rest >> 1 & 1);
                    x.dialect(5, rest >> 2 == 0 ? 0 : 35);
                    due("read again", Check.read(x, 1, Check.written(x, 0)), cells.length);
                    due("alike", x.differ(0, 1), 0);
                    x.away(0, 1);
                    due("read again", Check.read(x, 1, Check.written(x, 0)), cells.length);
                    due("alike", x.differ(0, 1), 0);
                }
            }
        }
    }
}
