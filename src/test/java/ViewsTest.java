/** Promises 15 to 20: views narrowed, ordered, cut, unlike, taken off, looked at. */
public final class ViewsTest {
    private static final String TEXT = "n,f,b,d,t\n"
        + "2,1.5,yes,2024-02-29,ab\n"
        + "10,2,no,1969-12-31,b\n"
        + ",,,,\n"
        + "2,1.50,true,1970-01-01,abc\n"
        + "-1,-0.5,false,2024-02-29,B\n";

    public static void main(String[] args) {
        narrow();
        narrowHolds();
        narrowRefused();
        order();
        cut();
        unlike();
        stack();
        view();
        Check.finish();
    }

    private static void due(String call, long got, long want) {
        Check.due(call, got, want);
    }

    private static TypedTables made() {
        TypedTables x = new TypedTables();
        due("read", Check.read(x, 0, TEXT), 5);
        return x;
    }

    private static void narrowed(int column, int how, String told, String want) {
        TypedTables x = made();
        int n = want.isEmpty() ? 0 : want.split(" ").length;
        due("narrow(0, " + column + ", " + how + ") by " + told, Check.narrow(x, 0, column, how, told), n);
        Check.due("view of " + column + " " + how + " " + told, Check.view(x, 0), want);
        due("the tape is empty then", x.look(8), 0);
        due("views", x.table(0, 2), 1);
    }

    private static void narrow() {
        narrowed(0, 0, "2", "0 3");
        narrowed(0, 1, "2", "1 4");
        narrowed(0, 2, "2", "4");
        narrowed(0, 3, "2", "0 3 4");
        narrowed(0, 4, "2", "1");
        narrowed(0, 5, "2", "0 1 3");
        narrowed(1, 0, "1.5", "0 3");
        narrowed(1, 0, "2.0000", "1");
        narrowed(1, 5, "2", "1");
        narrowed(1, 2, "-0.4", "4");
        narrowed(2, 0, "true", "0 3");
        narrowed(2, 2, "yes", "1 4");
        narrowed(3, 4, "1970-01-01", "0 4");
        narrowed(3, 3, "1970-01-01", "1 3");
        narrowed(4, 0, "ab", "0");
        narrowed(4, 4, "ab", "1 3");
        narrowed(4, 2, "ab", "4");
        narrowed(4, 1, "1", "0 1 3 4");
        narrowed(0, 0, "3", "");
        narrowed(0, 7, "", "2");
        narrowed(4, 7, "told\tto no end, and far too long", "2");
        TypedTables x = made();
        x.order(0, 0, true);
        due("of the one on top", Check.narrow(x, 0, 3, 0, "2024-02-29"), 2);
        Check.due("view", Check.view(x, 0), "0 4");
    }

    private static void narrowHolds() {
        narrowed(4, 6, "b", "0 1 3");
        narrowed(4, 6, "abc", "3");
        narrowed(4, 6, "bc", "3");
        narrowed(4, 6, "abcd", "");
        narrowed(0, 6, "1", "1 4");
        narrowed(3, 6, "-12-", "1");
        narrowed(1, 6, ".5", "0 3 4");
        narrowed(4, 6, "ba", "");
        due("nothing", made().narrow(0, 4, 6), -1);
    }

    private static void narrowRefused() {
        TypedTables x = made();
        due("not held", Check.narrow(x, 0, 0, 0, "2.5"), -1);
        due("the tape is empty then", x.look(8), 0);
        due("not held", Check.narrow(x, 0, 0, 3, "x"), -1);
        due("not held", Check.narrow(x, 0, 3, 3, "2024-02-30"), -1);
        due("without bytes", x.narrow(0, 4, 0), -1);
        due("no cell", Check.narrow(x, 0, 4, 0, "123456789012345678901"), -1);
        due("no cell", Check.narrow(x, 0, 4, 0, "\t"), -1);
        due("another how", Check.narrow(x, 0, 4, 8, "x"), -1);
        due("another how", Check.narrow(x, 0, 4, -1, "x"), -1);
        due("none such", Check.narrow(x, 0, 5, 7, "x"), -1);
        due("none such", Check.narrow(x, 0, -1, 7, "x"), -1);
        due("none such", Check.narrow(x, 1, 0, 7, "x"), -1);
        due("the tape is empty then", x.look(8), 0);
        due("views", x.table(0, 2), 0);
        Check.due("told TEXT", x.type(0, 0, 5), true);
        due("held now", Check.narrow(x, 0, 0, 2, "2"), 2);
        Check.due("as TEXT", Check.view(x, 0), "1 4");
        TypedTables y = new TypedTables();
        Check.read(y, 0, "a,b\n,1\n");
        due("EMPTY holds no bytes alone", Check.narrow(y, 0, 0, 1, "x"), -1);
        due("EMPTY has none", Check.narrow(y, 0, 0, 7, ""), 1);
    }

    private static void ordered(int column, boolean down, String want) {
        TypedTables x = made();
        due("order", x.order(0, column, down), 5);
        Check.due("order by " + column + " " + down, Check.view(x, 0), want);
    }

    private static void order() {
        ordered(0, false, "2 4 0 3 1");
        ordered(0, true, "2 1 0 3 4");
        ordered(1, false, "2 4 0 3 1");
        ordered(2, false, "2 1 4 0 3");
        ordered(2, true, "2 0 3 1 4");
        ordered(3, false, "2 1 3 0 4");
        ordered(3, true, "2 0 4 3 1");
        ordered(4, false, "2 4 0 3 1");
        ordered(4, true, "2 1 3 0 4");
        TypedTables x = made();
        x.order(0, 4, true);
        x.order(0, 0, false);
        Check.due("alike ones as they were", Check.view(x, 0), "2 4 3 0 1");
        due("none such", x.order(0, 5, false), -1);
        due("none such", x.order(0, -1, false), -1);
        due("none such", x.order(2, 0, false), -1);
        due("views", x.table(0, 2), 2);
    }

    private static void cut() {
        TypedTables x = made();
        x.order(0, 0, true);
        due("cut", x.cut(0, 1, 3), 3);
        Check.due("view", Check.view(x, 0), "1 0 3");
        due("fewer", x.cut(0, 2, 5), 1);
        Check.due("view", Check.view(x, 0), "3");
        due("beyond", x.cut(0, 1, 1), 0);
        due("far beyond", x.cut(0, Integer.MAX_VALUE, Integer.MAX_VALUE), 0);
        due("below", x.cut(0, -1, 1), -1);
        due("below", x.cut(0, 0, -1), -1);
        due("none such", x.cut(1, 0, 1), -1);
        due("none such", x.cut(-1, 0, 1), -1);
        x.back(0);
        x.back(0);
        due("none", x.cut(0, 0, 0), 0);
        x.back(0);
        due("all", x.cut(0, 0, Integer.MAX_VALUE), 1);
    }

    private static void unlike() {
        String[] want = {"0 1 2 4", "0 1 2 4", "0 1 2", "0 1 2 3", "0 1 2 3 4"};
        for (int c = 0; c < 5; c++) {
            TypedTables x = made();
            due("unlike", x.unlike(0, c), want[c].split(" ").length);
            Check.due("unlike " + c, Check.view(x, 0), want[c]);
        }
        TypedTables x = made();
        x.order(0, 4, true);
        x.unlike(0, 2);
        Check.due("of the one on top", Check.view(x, 0), "2 1 3");
        due("none such", x.unlike(0, 5), -1);
        due("none such", x.unlike(1, 0), -1);
        TypedTables y = new TypedTables();
        Check.read(y, 0, "a,b\n,1\n,2\n");
        due("no bytes are one", y.unlike(0, 0), 1);
    }

    private static void stack() {
        TypedTables x = made();
        for (int i = 1; i <= 6; i++) {
            due("cut", x.cut(0, 1, 9), Math.max(0, 5 - i));
            due("views", x.table(0, 2), i);
        }
        due("a 7th", x.cut(0, 0, 1), -1);
        due("a 7th", x.order(0, 0, true), -1);
        due("a 7th", x.unlike(0, 0), -1);
        due("a 7th", Check.narrow(x, 0, 0, 7, "q"), -1);
        due("the tape is empty then", x.look(8), 0);
        for (int i = 5; i >= 0; i--) {
            due("back", x.back(0), i);
            due("rows", x.view(0, -1), Math.max(0, 5 - i));
        }
        due("none left", x.back(0), -1);
        due("none such", x.back(1), -1);
        due("none such", x.back(3), -1);
        due("no acts", x.look(7), 1);
    }

    private static void view() {
        TypedTables x = made();
        due("how many", x.view(0, -1), 5);
        due("row", x.view(0, 4), 4);
        due("beyond", x.view(0, 5), -1);
        due("below", x.view(0, -2), -1);
        due("none such", x.view(1, 0), -1);
        due("none such", x.view(-1, -1), -1);
        Check.due("a cell is seen through it", Check.put(x, 0, 4, 0, "99"), true);
        x.order(0, 0, true);
        Check.due("view", Check.view(x, 0), "2 4 1 0 3");
    }
}
