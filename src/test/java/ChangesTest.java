/** Promises 7, 9 to 11, 13, 14, 37 and 38: cells, rows, columns changed, joined, undone, the image, the whole. */
public final class ChangesTest {
    public static void main(String[] args) {
        put();
        out();
        name();
        away();
        joined();
        joinedByValue();
        joinedNames();
        joinedRefused();
        viewsTakenOff();
        undo();
        undoTheLatestSix();
        image();
        look();
        Check.finish();
    }

    private static void due(String call, long got, long want) {
        Check.due(call, got, want);
    }

    private static void put() {
        TypedTables x = Check.made("a,b\n1,2\n3,4\n");
        Check.due("put", Check.put(x, 0, 1, 0, "x,\n\""), true);
        Check.due("cells", Check.cells(x, 0), "1!2/x,\n\"!4");
        due("the tape is empty then", x.look(8), 0);
        Check.due("put nothing", x.put(0, 1, 0), true);
        Check.due("cells", Check.cells(x, 0), "1!2/!4");
        Check.due("put 20", Check.put(x, 0, 0, 1, "12345678901234567890"), true);
        due("acts", x.look(7), 4);
        Check.due("put 21", Check.put(x, 0, 0, 1, "123456789012345678901"), false);
        due("the tape is empty then", x.look(8), 0);
        Check.due("put a tab", Check.put(x, 0, 0, 1, "a\tb"), false);
        Check.due("put 127", Check.put(x, 0, 0, 1, "" + (char) 127), false);
        Check.due("put 0", Check.put(x, 0, 0, 1, "\0"), false);
        Check.due("put 200", Check.put(x, 0, 0, 1, "" + (char) 200), false);
        Check.due("put ~ and blank", Check.put(x, 0, 0, 1, "~ "), true);
        int[][] none = {{1, 0, 0}, {3, 0, 0}, {-1, 0, 0}, {0, 2, 0}, {0, -1, 0}, {0, 0, 2}, {0, 0, -1}};
        for (int[] n : none) {
            Check.due("none such", Check.put(x, n[0], n[1], n[2], "1"), false);
            due("the tape is empty then", x.look(8), 0);
        }
        due("acts", x.look(7), 5);
        Check.due("type", x.type(0, 0, 2), true);
        Check.due("not held", Check.put(x, 0, 0, 0, "1.5"), false);
        Check.due("held", Check.put(x, 0, 0, 0, "-9"), true);
        Check.due("no bytes are held", Check.put(x, 0, 0, 0, ""), true);
    }

    private static void out() {
        TypedTables x = Check.made("a,b\n1,2\n3,4\n5,6\n");
        due("out", x.out(0, 1), 2);
        Check.due("cells", Check.cells(x, 0), "1!2/5!6");
        due("none such", x.out(0, 2), -1);
        due("none such", x.out(0, -1), -1);
        due("none such", x.out(1, 0), -1);
        due("none such", x.out(3, 0), -1);
        due("out", x.out(0, 0), 1);
        due("out", x.out(0, 0), 0);
        due("none such", x.out(0, 0), -1);
        due("columns stay", x.table(0, 0), 2);
        due("guess without rows", x.column(0, 0, 1), 0);
        due("acts", x.look(7), 4);
    }

    private static void name() {
        TypedTables x = Check.made("a,b\n1,2\n");
        Check.due("name", Check.name(x, 0, 0, "Some_name_12"), true);
        Check.due("names", Check.names(x, 0), "Some_name_12 b");
        due("the tape is empty then", x.look(8), 0);
        Check.due("another has it", Check.name(x, 0, 0, "b"), false);
        Check.due("its own", Check.name(x, 0, 1, "b"), true);
        Check.due("13", Check.name(x, 0, 0, "Some_name_123"), false);
        Check.due("none", Check.name(x, 0, 0, ""), false);
        for (String s : new String[] {"a b", "a-", "a,", "\"a\"", "[", "`", "{", "@", "/", ":", "a\n"}) {
            Check.due("name " + s, Check.name(x, 0, 0, s), false);
        }
        Check.due("digits", Check.name(x, 0, 0, "0azAZ9_"), true);
        Check.due("none such", Check.name(x, 0, 2, "q"), false);
        Check.due("none such", Check.name(x, 0, -1, "q"), false);
        Check.due("none such", Check.name(x, 2, 0, "q"), false);
        due("the tape is empty then", x.look(8), 0);
        Check.due("type", x.type(0, 0, 3), true);
        Check.due("name", Check.name(x, 0, 0, "z"), true);
        due("the told type stays", x.column(0, 0, 2), 3);
    }

    private static void away() {
        TypedTables x = Check.made("a,b,c\n1,2,3\n4,5,6\n");
        Check.due("type", x.type(0, 2, 3), true);
        due("away", x.away(0, 1), 2);
        Check.due("cells", Check.cells(x, 0), "1!3/4!6");
        Check.due("names", Check.names(x, 0), "a c");
        due("told goes along", x.column(0, 1, 2), 3);
        due("none such", x.away(0, 2), -1);
        due("none such", x.away(0, -1), -1);
        due("none such", x.away(1, 0), -1);
        due("away", x.away(0, 0), 1);
        due("the only one", x.away(0, 0), -1);
        Check.due("cells", Check.cells(x, 0), "3/6");
    }

    private static void joined() {
        TypedTables x = Check.made("id,n\n1,a\n2,b\n,c\n1,d\n", "k,id,v\nx,1,10\ny,,20\nz,1,30\nw,3,40\n");
        Check.due("type", x.type(1, 2, 3), true);
        Check.due("type", x.type(0, 1, 5), true);
        due("joined", x.joined(0, 0, 1, 1, 2), 4);
        Check.due("names", Check.names(x, 2), "id n k v");
        Check.due("cells", Check.cells(x, 2), "1!a!x!10/1!a!z!30/1!d!x!10/1!d!z!30");
        due("told", x.column(2, 3, 2), 3);
        due("told", x.column(2, 1, 2), 5);
        due("told", x.column(2, 0, 2), -1);
        x.order(0, 1, true);
        x.cut(1, 0, 2);
        due("of the top views", x.joined(0, 0, 1, 1, 2), 2);
        Check.due("cells", Check.cells(x, 2), "1!d!x!10/1!a!x!10");
        due("views of a stay", x.table(0, 2), 1);
        due("views of b stay", x.table(1, 2), 1);
        due("undo", x.undo(), 5);
        due("what c was", x.table(2, 1), 4);
        due("a table with itself", x.joined(0, 0, 0, 0, 1), 5);
        Check.due("names", Check.names(x, 1), "id n n_");
        Check.due("cells", Check.cells(x, 1), "1!a!a/1!a!d/2!b!b/1!d!a/1!d!d");
    }

    private static void joinedByValue() {
        TypedTables x = Check.made("a\n1\n2\n\n3\n", "a,b\n1.0,p\n2.5,q\n3.00,r\n");
        due("INT with FIXED", x.joined(0, 0, 1, 0, 2), 2);
        Check.due("cells", Check.cells(x, 2), "1!p/3!r");
        due("FIXED with INT", x.joined(1, 0, 0, 0, 2), 2);
        Check.due("cells", Check.cells(x, 2), "1.0!p/3.00!r");
        TypedTables y = Check.made("a\nyes\nfalse\n", "a,b\ntrue,1\nno,2\nyes,3\n");
        due("BOOL", y.joined(0, 0, 1, 0, 2), 3);
        Check.due("cells", Check.cells(y, 2), "yes!1/yes!3/false!2");
        due("columns", y.table(2, 0), 2);
        TypedTables z = Check.made("a\n\"\"\n\"\"\n", "a\n\"\"\n");
        due("EMPTY with EMPTY", z.joined(0, 0, 1, 0, 2), 0);
        due("a table without rows", z.table(2, 1), 0);
        due("columns", z.table(2, 0), 1);
    }

    private static void joinedNames() {
        TypedTables x = Check.made("k,y\n1,2\n", "k,y,y_\n1,3,4\n");
        due("joined", x.joined(0, 0, 1, 0, 2), 1);
        Check.due("names", Check.names(x, 2), "k y y_ y__");
        TypedTables y = Check.made("k,y\n1,2\n", "k,y_,y\n1,3,4\n");
        due("y_ is there", y.joined(0, 0, 1, 0, 2), -1);
        TypedTables z = Check.made("k,abcdefghijkl\n1,2\n", "q,abcdefghijkl\n1,2\n");
        due("no room for _", z.joined(0, 0, 1, 0, 2), -1);
        due("no table", z.table(2, 0), -1);
        due("its one is left out", z.joined(0, 0, 1, 1, 2), 0);
        TypedTables w = Check.made("k,b\n1,2\n", "b,k\n1,2\n");
        due("joined", w.joined(0, 0, 1, 0, 2), 1);
        Check.due("names", Check.names(w, 2), "k b k_");
    }

    private static void joinedRefused() {
        TypedTables x = Check.made("a,b,c,d\n1,x,yes,\n", "a,b,c,d,e\n1,x,yes,,2024-01-01\n");
        due("8 columns", x.joined(0, 0, 1, 0, 2), 1);
        due("9 columns", x.joined(1, 0, 1, 0, 2), -1);
        due("INT with TEXT", x.joined(0, 0, 1, 1, 2), -1);
        due("EMPTY with INT", x.joined(0, 3, 1, 0, 2), -1);
        due("DATE with BOOL", x.joined(1, 4, 0, 2, 2), -1);
        due("into itself", x.joined(0, 0, 1, 0, 0), -1);
        due("into itself", x.joined(0, 0, 1, 0, 1), -1);
        int[][] none = {{0, 4, 1, 0, 2}, {0, 0, 1, 5, 2}, {0, -1, 1, 0, 2}, {3, 0, 1, 0, 2}, {0, 0, 3, 0, 2},
            {0, 0, 1, 0, 3}, {0, 0, 1, 0, -1}, {-1, 0, 1, 0, 2}};
        for (int[] n : none) {
            due("none such", x.joined(n[0], n[1], n[2], n[3], n[4]), -1);
        }
        due("acts", x.look(7), 3);
        TypedTables y = Check.made("a\n" + "1\n".repeat(5), "a\n" + "1\n".repeat(8), "z\n");
        due("40 rows", y.joined(0, 0, 1, 0, 2), 40);
        Check.row(y, 1, "1");
        due("45 rows", y.joined(0, 0, 1, 0, 2), -1);
        due("as it was", y.table(2, 1), 40);
    }

    private static boolean acted(TypedTables x, int act) {
        switch (act) {
            case 0: return Check.read(x, 0, "a\n1\n") == 1;
            case 1: return Check.put(x, 0, 0, 0, "1");
            case 2: return Check.row(x, 0, "5,6") == 3;
            case 3: return x.out(0, 0) == 1;
            case 4: return Check.name(x, 0, 0, "q");
            case 5: return x.away(0, 0) == 1;
            default: return x.type(0, 0, 5);
        }
    }

    private static void viewsTakenOff() {
        for (int act = 0; act < 7; act++) {
            TypedTables x = Check.made("a,b\n1,2\n3,4\n", "a\n1\n");
            for (int t = 0; t < 2; t++) {
                x.cut(t, 0, 1);
                x.order(t, 0, false);
            }
            Check.due("act " + act, acted(x, act), true);
            due("views of what was changed, act " + act, x.table(0, 2), 0);
            due("the lowest has all rows, act " + act, x.view(0, -1), x.table(0, 1));
            due("views of another, act " + act, x.table(1, 2), 2);
        }
        TypedTables x = Check.made("a,b\n1,2\n3,4\n", "a\n1\n", "c\n1\n");
        x.cut(2, 0, 0);
        x.cut(0, 0, 1);
        due("joined", x.joined(0, 0, 1, 0, 2), 1);
        due("views of c", x.table(2, 2), 0);
        due("views of a", x.table(0, 2), 1);
        Check.due("refused", Check.put(x, 0, 0, 7, "1"), false);
        due("views of a", x.table(0, 2), 1);
    }

    private static void undo() {
        TypedTables x = Check.made("a,b\n1,2\n", "c\n7\n");
        due("none", new TypedTables().undo(), -1);
        Check.put(x, 0, 0, 0, "z");
        Check.row(x, 0, "5,6");
        Check.name(x, 0, 1, "q");
        x.type(0, 1, 3);
        x.cut(1, 0, 0);
        x.dialect(0, 59);
        due("undo type", x.undo(), 5);
        due("told", x.column(0, 1, 2), -1);
        due("views off all", x.table(1, 2), 0);
        due("the dialect stays", x.look(0), 59);
        due("undo name", x.undo(), 4);
        Check.due("names", Check.names(x, 0), "a b");
        due("undo row", x.undo(), 3);
        Check.due("cells", Check.cells(x, 0), "z!2");
        due("undo put", x.undo(), 2);
        Check.due("cells", Check.cells(x, 0), "1!2");
        due("undo read", x.undo(), 1);
        due("tables", x.look(6), 1);
        due("gone", x.table(1, 0), -1);
        due("undo read", x.undo(), 0);
        due("tables", x.look(6), 0);
        due("none left", x.undo(), -1);
        due("gone", x.view(0, -1), -1);
    }

    private static void undoTheLatestSix() {
        TypedTables x = Check.made("a,b,c\n1,2,3\n4,5,6\n", "a\n1\n");
        x.joined(0, 0, 1, 0, 2);
        x.away(2, 1);
        x.out(0, 0);
        due("acts", x.look(7), 5);
        due("refused is no act", x.out(0, 5), -1);
        due("acts", x.look(7), 5);
        Check.put(x, 2, 0, 0, "p");
        Check.put(x, 2, 0, 0, "q");
        Check.put(x, 2, 0, 0, "r");
        due("acts", x.look(7), 6);
        Check.due("cells", Check.cells(x, 2), "r!3");
        due("undo", x.undo(), 5);
        Check.due("cells", Check.cells(x, 2), "q!3");
        due("undo", x.undo(), 4);
        due("undo", x.undo(), 3);
        Check.due("cells", Check.cells(x, 2), "1!3");
        due("undo out", x.undo(), 2);
        Check.due("cells", Check.cells(x, 0), "1!2!3/4!5!6");
        due("undo away", x.undo(), 1);
        Check.due("cells", Check.cells(x, 2), "1!2!3");
        due("undo joined", x.undo(), 0);
        due("tables", x.look(6), 3);
        due("none left", x.undo(), -1);
    }

    private static void image() {
        TypedTables x = Check.made("a,b\n1,2\n3,4\n");
        Check.due("none", x.image(false), false);
        x.order(0, 0, true);
        x.dialect(3, 1);
        Check.due("taken", x.image(true), true);
        due("acts stay", x.look(7), 1);
        Check.put(x, 0, 0, 0, "z");
        Check.read(x, 1, "q\n");
        Check.read(x, 1, "\"");
        x.dialect(3, 0);
        x.write(0);
        Check.tape(x, "abc");
        Check.due("gone back", x.image(false), true);
        Check.due("cells", Check.cells(x, 0), "1!2/3!4");
        Check.due("view", Check.view(x, 0), "1 0");
        due("tables", x.look(6), 1);
        due("dialect", x.look(3), 1);
        due("no acts", x.look(7), 0);
        due("undo", x.undo(), -1);
        due("not the tape", x.look(8), 3);
        due("not faults", x.fault(0), 4);
        due("not faults", x.look(10), 1);
        due("not what was written", x.sign(0), 'a');
        due("not what was written", x.sign(4), 'z');
        x.end(0);
        x.away(0, 0);
        x.back(0);
        Check.due("more than once", x.image(false), true);
        Check.due("cells", Check.cells(x, 0), "1!2/3!4");
        Check.due("view", Check.view(x, 0), "1 0");
        x.back(0);
        x.out(0, 0);
        Check.due("another", x.image(true), true);
        x.read(0);
        x.undo();
        Check.due("gone back", x.image(false), true);
        Check.due("cells", Check.cells(x, 0), "3!4");
        due("views", x.table(0, 2), 0);
    }

    private static void look() {
        TypedTables x = Check.made("a,b\n1,2\n3,4\n");
        Check.read(x, 2, "a\n1\n");
        due("tables", x.look(6), 5);
        due("acts", x.look(7), 2);
        due("cells", x.look(9), 5);
        Check.tape(x, "1234567");
        due("tape", x.look(8), 7);
        due("another", x.look(11), -1);
        due("another", x.look(-1), -1);
        due("another", x.look(Integer.MAX_VALUE), -1);
        int[] first = {44, 34, 1, 0, 0, 0};
        for (int what = 0; what < 6; what++) {
            due("dialect", x.look(what), first[what]);
        }
    }
}
