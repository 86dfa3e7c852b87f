/** Promises 31 to 34: numbers over columns, groups, matches, differences. */
public final class NumbersTest {
    private static final long NO = Check.NO_NUMBER;

    public static void main(String[] args) {
        over();
        overTypes();
        overViews();
        median();
        mode();
        group();
        matches();
        differ();
        Check.finish();
    }

    private static void due(String call, long got, long want) {
        Check.due(call, got, want);
    }

    private static void over(TypedTables x, int column, long... want) {
        for (int what = 0; what < want.length; what++) {
            due("over(0, " + column + ", " + what + ")", x.over(0, column, what), want[what]);
        }
    }

    private static void over() {
        TypedTables x = Check.made("n,z\n5,\n,\n-2,\n5,\n9,\n-2,\n5,\n9,\n");
        over(x, 0, 7, 29, 2, 4, 3, 0, 3);
        over(x, 1, 0, NO, NO, NO, NO, NO, NO);
        due("another what", x.over(0, 0, 7), NO);
        due("another what", x.over(0, 0, -1), NO);
        due("none such", x.over(0, 2, 0), NO);
        due("none such", x.over(0, -1, 0), NO);
        due("none such", x.over(1, 0, 0), NO);
        due("none such", x.over(3, 0, 0), NO);
    }

    private static void overTypes() {
        TypedTables x = Check.made("f,b,d,t\n1.5,yes,2024-01-02,b\n2,no,2024-01-01,a\n-0.25,true,2024-01-02,ab\n");
        over(x, 0, 3, 32500, 2, 1, 0, 0, 1);
        over(x, 1, 3, 2, 1, 0, 0, 0, 2);
        over(x, 2, 3, NO, 1, 0, 0, 0, 2);
        over(x, 3, 3, NO, 1, 0, 2, 0, 1);
        Check.due("type", x.type(0, 0, 5), true);
        over(x, 0, 3, NO, 2, 1, 0);
        TypedTables y = Check.made("a\n");
        over(y, 0, 0, NO, NO);
        Check.due("type", y.type(0, 0, 2), true);
        over(y, 0, 0, 0, NO, NO, NO, NO, NO);
    }

    private static void overViews() {
        TypedTables x = Check.made("n\n5\n1\n5\n1\n7\n");
        x.order(0, 0, true);
        Check.due("view", Check.view(x, 0), "4 0 2 1 3");
        over(x, 0, 5, 19, 1, 4, 0, 0, 2);
        x.cut(0, 2, 3);
        over(x, 0, 3, 7, 1, 2, 3, 1, 2);
        x.cut(0, 0, 0);
        over(x, 0, 0, 0, NO, NO, NO, NO, NO);
    }

    private static void median() {
        TypedTables x = Check.made("n\n");
        int[] want = {0, 0, 2, 0, 0, 4};
        int[] cells = {5, 3, 4, 9, 5, 8};
        for (int i = 0; i < cells.length; i++) {
            Check.row(x, 0, "" + cells[i]);
            due("median of " + (i + 1), x.over(0, 0, 4), want[i]);
        }
    }

    private static void mode() {
        TypedTables x = Check.made("n\na\nb\n\"\"\nb\na\n\"\"\n\"\"\n");
        due("mode", x.over(0, 0, 5), 0);
        due("how many", x.over(0, 0, 6), 2);
        x.order(0, 0, true);
        due("the first in the view", x.over(0, 0, 5), 1);
        TypedTables y = Check.made("n\n2\n1\n1.0\n2\n1\n");
        due("by value", y.over(0, 0, 5), 1);
        due("how many", y.over(0, 0, 6), 3);
    }

    private static void group() {
        TypedTables x = Check.made("k,n,d\nb,1,2024-01-01\na,2.5,\n,4,\nb,8,\n,,\na,,\n");
        due("groups", x.group(0, 0, -1, 0, 0), 3);
        long[][] want = {{0, 2, 90000}, {1, 2, 25000}, {2, 2, 40000}};
        for (int i = 0; i < 3; i++) {
            for (int what = 0; what < 3; what++) {
                due("group " + i + " " + what, x.group(0, 0, i, what, 1), want[i][what]);
            }
        }
        due("by is for a sum", x.group(0, 0, 0, 1, 99), 2);
        due("beyond", x.group(0, 0, 3, 0, 1), NO);
        due("below", x.group(0, 0, -2, 0, 1), NO);
        due("another what", x.group(0, 0, 0, 3, 1), NO);
        due("another what", x.group(0, 0, 0, -1, 1), NO);
        due("no sum of DATE", x.group(0, 0, 0, 2, 2), NO);
        due("no sum of TEXT", x.group(0, 1, 0, 2, 0), NO);
        due("none such", x.group(0, 0, 0, 2, 3), NO);
        due("none such", x.group(0, 0, 0, 2, -1), NO);
        due("none such", x.group(0, 3, 0, 0, 1), NO);
        due("none such", x.group(1, 0, -1, 0, 0), NO);
        due("by value", x.group(0, 1, -1, 0, 0), 5);
        x.order(0, 0, false);
        due("no bytes are first", x.group(0, 0, 0, 0, 1), 2);
        x.cut(0, 1, 2);
        due("groups of the top view", x.group(0, 0, -1, 0, 0), 2);
        due("sum of no bytes", x.group(0, 0, 0, 2, 1), 0);
        due("sum", x.group(0, 0, 1, 2, 1), 25000);
        TypedTables y = Check.made("a\n");
        due("no groups", y.group(0, 0, -1, 0, 0), 0);
        due("no groups", y.group(0, 0, 0, 0, 0), NO);
    }

    private static void matches() {
        TypedTables x = Check.made("a,t\n1,x\n2,\n1,y\n,\n", "b,t,e\n1.0,y,\n1,x,\n3,,\n,x,\n");
        due("INT with FIXED", x.matches(0, 0, 1, 0), 4);
        due("FIXED with INT", x.matches(1, 0, 0, 0), 4);
        due("TEXT", x.matches(0, 1, 1, 1), 3);
        due("with itself", x.matches(0, 0, 0, 0), 5);
        due("EMPTY with EMPTY", x.matches(1, 2, 1, 2), 0);
        due("TEXT with INT", x.matches(0, 1, 1, 0), -1);
        due("EMPTY with INT", x.matches(1, 2, 0, 0), -1);
        due("none such", x.matches(0, 2, 1, 0), -1);
        due("none such", x.matches(0, 0, 1, 3), -1);
        due("none such", x.matches(0, 0, 2, 0), -1);
        due("none such", x.matches(-1, 0, 1, 0), -1);
        x.cut(0, 0, 1);
        due("of top views", x.matches(0, 0, 1, 0), 2);
        TypedTables y = Check.made("a\n" + "7\n".repeat(40));
        due("no limit", y.matches(0, 0, 0, 0), 1600);
        TypedTables z = Check.made("a\n999999999\n", "a\n999999999.0000\n999999999.0001\n");
        due("by 10000 times it", z.matches(0, 0, 1, 0), 1);
    }

    private static void differ() {
        TypedTables x = Check.made("a,b\n1,2\n3,4\n", "c,d\n1,2\n3,5\n", "q,r,s\n1,2,\n");
        due("itself", x.differ(0, 0), 0);
        due("one cell", x.differ(0, 1), 1);
        due("where just one has one", x.differ(0, 2), 3);
        due("where just one has one", x.differ(2, 0), 3);
        Check.due("put", Check.put(x, 1, 1, 1, "4.0"), true);
        due("by bytes", x.differ(0, 1), 1);
        x.cut(0, 0, 0);
        due("rows, not views", x.differ(0, 1), 1);
        due("none such", x.differ(0, 3), -1);
        due("none such", x.differ(-1, 0), -1);
        x.undo();
        x.undo();
        due("none such", x.differ(0, 2), -1);
    }
}
