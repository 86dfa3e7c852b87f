/** The third part of the Terms and promises 13, 15 to 20 and 31 to 34, sentence by sentence. */
public final class BoundsViewsTest extends Check {
    private static final int EQUAL = 0;
    private static final int UNEQUAL = 1;
    private static final int LESS = 2;
    private static final int AT_MOST = 3;
    private static final int GREATER = 4;
    private static final int AT_LEAST = 5;
    private static final int HOLDS = 6;
    private static final int HAS_NONE = 7;

    private static final int TEXT = 5;
    private static final String TWENTY = "12345678901234567890";
    /** COLUMNS of INT, FIXED, BOOL, DATE, TEXT and EMPTY; ROW 2 has no bytes at all. */
    private static final String ALL = "n,f,b,d,t,e\n"
        + "2,1.5,yes,2024-02-29,ab,\n"
        + "10,2,no,1969-12-31,b,\n"
        + ",,,,,\n"
        + "2,1.50,true,1970-01-01,abc,\n"
        + "-1,-0.5,false,2024-02-29,B,\n";

    public static void main(String[] args) {
        rowsInAnOrder();
        stack();
        narrowedByValue();
        narrowedRefused();
        narrowedWithoutBytes();
        narrowedHolds();
        ordered();
        cutTerm();
        unlikeTerm();
        changesTakeOff();
        countAndSum();
        leastAndGreatest();
        median();
        mode();
        groups();
        joinedTables();
        joinedColumns();
        joinedNames();
        joinedTypes();
        joinedRows();
        joinedTold();
        joined();
        narrow();
        narrowTape();
        order();
        cut();
        unlike();
        back();
        view();
        over();
        overNone();
        group();
        groupNone();
        matches();
        differ();
        finish();
    }

    /** A TABLE of one COLUMN n with these CELLS (no line breaks or quotes in them). */
    private static TypedTables column(String... cells) {
        StringBuilder text = new StringBuilder("n\n");
        for (String cell : cells) {
            text.append('"').append(cell).append("\"\n");
        }
        return made(text.toString());
    }

    private static TypedTables all() {
        return made(ALL);
    }

    private static int count(String rows) {
        return rows.isEmpty() ? 0 : rows.split(" ").length;
    }

    // ---- ==== 3, views

    private static void rowsInAnOrder() {
        term(3, "A VIEW: ROWS of its TABLE in an order.");
        TypedTables x = all();
        due("the lowest", view(x, 0), "0 1 2 3 4");
        x.order(0, 0, true);
        due("ordered", view(x, 0), "2 1 0 3 4");
        due("cells stay", x.value(0, 1, 0), 10);
        due("rows stay", x.table(0, 1), 5);
    }

    private static void stack() {
        term(3, "Each TABLE has a stack of them: the lowest has all ROWS; up to 6 more:");
        TypedTables x = made("a\n1\n2\n3\n4\n5\n6\n7\n8\n", "a\n");
        due("the lowest", x.view(0, -1), 8);
        due("the lowest of no rows", x.view(1, -1), 0);
        for (int i = 1; i <= 6; i++) {
            due("one more", x.cut(0, 1, 40), 8 - i);
            due("views", x.table(0, 2), i);
        }
        due("a 7th cut", x.cut(0, 0, 1), -1);
        due("a 7th order", x.order(0, 0, false), -1);
        due("a 7th unlike", x.unlike(0, 0), -1);
        for (int how = EQUAL; how <= HAS_NONE; how++) {
            due("a 7th narrow", narrow(x, 0, 0, how, "1"), -1);
        }
        due("views", x.table(0, 2), 6);
        due("rows", view(x, 0), "6 7");
        due("another table has its own", x.cut(1, 0, 1), 0);
        for (int i = 5; i >= 0; i--) {
            due("back", x.back(0), i);
        }
        due("the lowest", x.view(0, -1), 8);
        for (int i = 1; i <= 6; i++) {
            x.order(0, 0, true);
        }
        due("6 again", x.table(0, 2), 6);
    }

    private static void narrowed(int column, int how, String told, String want) {
        TypedTables x = all();
        due("narrow " + column + " by " + how + " " + told, narrow(x, 0, column, how, told), count(want));
        due("view of " + column + " by " + how + " " + told, view(x, 0), want);
    }

    private static void narrowedByValue() {
        term(3, "NARROWED: those of the one on top whose CELL is so (= # < <= > >= a VALUE told as a CELL,");
        String[][] want = {{"0 3", "1 4", "4", "0 3 4", "1", "0 1 3"}, {"0 3", "1 4", "4", "0 3 4", "1", "0 1 3"},
            {"0 3", "1 4", "1 4", "0 1 3 4", "", "0 3"}, {"3", "0 1 4", "1", "1 3", "0 4", "0 3 4"},
            {"0", "1 3 4", "4", "0 4", "1 3", "0 1 3"}};
        String[] told = {"2", "1.5000", "true", "1970-01-01", "ab"};
        for (int c = 0; c < 5; c++) {
            for (int how = EQUAL; how <= AT_LEAST; how++) {
                narrowed(c, how, told[c], want[c][how]);
            }
        }
        narrowed(0, EQUAL, "3", "");
        narrowed(0, LESS, "-1", "");
        narrowed(0, GREATER, "10", "");
        narrowed(0, AT_LEAST, "-1", "0 1 3 4");
        narrowed(0, LESS, "999999999", "0 1 3 4");
        narrowed(4, EQUAL, "AB", "");
        narrowed(4, LESS, TWENTY, "");
        TypedTables x = all();
        x.order(0, 0, true);
        x.cut(0, 1, 3);
        due("of the one on top", narrow(x, 0, 0, UNEQUAL, "-1"), 3);
        due("in its order", view(x, 0), "1 0 3");
    }

    private static void narrowedRefused() {
        term(3, "which the TYPE must HOLD, not without bytes;");
        String[] bad = {"1.5", "x", "1", "1", null, "x"};
        for (int how = EQUAL; how <= AT_LEAST; how++) {
            TypedTables x = all();
            for (int c = 0; c < 6; c++) {
                if (bad[c] != null) {
                    due("not held by column " + c, narrow(x, 0, c, how, bad[c]), -1);
                }
                due("without bytes", narrow(x, 0, c, how, ""), -1);
            }
            due("no cell", narrow(x, 0, 4, how, TWENTY + "1"), -1);
            due("no cell", narrow(x, 0, 4, how, "\t"), -1);
            due("no cell", narrow(x, 0, 4, how, "" + (char) 127), -1);
            due("20 bytes are one", narrow(x, 0, 4, how, TWENTY) >= 0, true);
            due("views", x.table(0, 2), 1);
        }
        narrowed(1, EQUAL, "2", "1");
        narrowed(4, EQUAL, "2", "");
        TypedTables x = all();
        due("told", x.type(0, 0, TEXT), true);
        due("TEXT holds all", narrow(x, 0, 0, LESS, "2"), 2);
        due("as TEXT", view(x, 0), "1 4");
    }

    private static void narrowedWithoutBytes() {
        term(3, "CELLS without bytes never are;");
        for (int how = EQUAL; how <= HOLDS; how++) {
            for (String told : new String[] {"b", "~", " "}) {
                TypedTables x = made("t\n\"\"\n\"\"\n");
                due("type", x.type(0, 0, TEXT), true);
                due("narrow by " + how, narrow(x, 0, 0, how, told), 0);
            }
        }
        narrowed(0, UNEQUAL, "77", "0 1 3 4");
        narrowed(0, LESS, "77", "0 1 3 4");
        narrowed(3, AT_MOST, "9999-12-31", "0 1 3 4");
    }

    private static void narrowedHolds() {
        term(3, "or HOLDS bytes somewhere (at least one); or has none);");
        narrowed(4, HOLDS, "b", "0 1 3");
        narrowed(4, HOLDS, "ab", "0 3");
        narrowed(4, HOLDS, "abc", "3");
        narrowed(4, HOLDS, "c", "3");
        narrowed(4, HOLDS, "abcd", "");
        narrowed(4, HOLDS, "ac", "");
        narrowed(4, HOLDS, TWENTY, "");
        narrowed(0, HOLDS, "1", "1 4");
        narrowed(0, HOLDS, "-", "4");
        narrowed(1, HOLDS, ".50", "3");
        narrowed(3, HOLDS, "02", "0 4");
        narrowed(5, HOLDS, "x", "");
        due("none", all().narrow(0, 4, HOLDS), -1);
        TypedTables x = made("t\naab\naaab\n");
        put(x, 0, 0, 0, TWENTY);
        due("all of 20", narrow(x, 0, 0, HOLDS, TWENTY), 1);
        x.back(0);
        due("begun twice", narrow(x, 0, 0, HOLDS, "aab"), 1);
        narrowed(0, HAS_NONE, "", "2");
        narrowed(5, HAS_NONE, "", "0 1 2 3 4");
        due("no rows", made("a\n").narrow(0, 0, HAS_NONE), 0);
        due("all have", made("a\n1\n").narrow(0, 0, HAS_NONE), 0);
    }

    private static void ordered() {
        term(3, "ORDERED by a COLUMN: by VALUE, up or down, CELLS without bytes first in both, alike ones as they were;");
        String[] up = {"2 4 0 3 1", "2 4 0 3 1", "2 1 4 0 3", "2 1 3 0 4", "2 4 0 3 1", "0 1 2 3 4"};
        String[] down = {"2 1 0 3 4", "2 1 0 3 4", "2 0 3 1 4", "2 0 4 3 1", "2 1 3 0 4", "0 1 2 3 4"};
        for (int c = 0; c < 6; c++) {
            TypedTables x = all();
            due("up", x.order(0, c, false), 5);
            due("up by " + c, view(x, 0), up[c]);
            x.back(0);
            due("down", x.order(0, c, true), 5);
            due("down by " + c, view(x, 0), down[c]);
        }
        TypedTables y = column("", "1", "", "0", "");
        y.order(0, 0, false);
        due("several without bytes", view(y, 0), "0 2 4 3 1");
        y.order(0, 0, true);
        due("as they were", view(y, 0), "0 2 4 1 3");
        TypedTables z = all();
        z.order(0, 4, true);
        z.order(0, 0, false);
        due("alike ones as they were in the view", view(z, 0), "2 4 3 0 1");
    }

    private static void cutTerm() {
        term(3, "CUT: from a place on so many;");
        TypedTables x = all();
        x.order(0, 0, true);
        due("cut", x.cut(0, 1, 2), 2);
        due("of the one on top", view(x, 0), "1 0");
        due("none", x.cut(0, 1, 0), 0);
    }

    private static void unlikeTerm() {
        term(3, "UNLIKE: the first ROW of each VALUE of a COLUMN (no bytes are one, too).");
        String[] want = {"0 1 2 4", "0 1 2 4", "0 1 2", "0 1 2 3", "0 1 2 3 4", "0"};
        for (int c = 0; c < 6; c++) {
            TypedTables x = all();
            due("unlike", x.unlike(0, c), count(want[c]));
            due("unlike " + c, view(x, 0), want[c]);
        }
        TypedTables y = column("", "1", "", "1.0");
        y.unlike(0, 0);
        due("no bytes are one", view(y, 0), "0 1");
        TypedTables z = column("1", "1.0", "1");
        z.type(0, 0, TEXT);
        z.order(0, 0, true);
        z.unlike(0, 0);
        due("in the view's order", view(z, 0), "1 0");
        due("of no rows", made("a\n").unlike(0, 0), 0);
    }

    /** The n-th of the ACTS, on TABLE 0 of two ROWS and two COLUMNS (joined() makes TABLE 2). */
    private static boolean acted(TypedTables x, int n) {
        switch (n) {
            case 0: return read(x, 0, "a\n1\n") == 1;
            case 1: return put(x, 0, 0, 0, "1");
            case 2: return row(x, 0, "5,6") == 3;
            case 3: return x.out(0, 0) == 1;
            case 4: return name(x, 0, 0, "q");
            case 5: return x.away(0, 0) == 1;
            default: return x.type(0, 0, TEXT);
        }
    }

    private static void changesTakeOff() {
        term(3, "Whatever changes a TABLE takes all its VIEWS off but the lowest.");
        for (int n = 0; n < 7; n++) {
            TypedTables x = made("a,b\n1,2\n3,4\n", "a\n1\n");
            for (int i = 0; i < 6; i++) {
                x.cut(0, 0, 1);
                x.cut(1, 0, 1);
            }
            due("act " + n, acted(x, n), true);
            due("its views", x.table(0, 2), 0);
            due("the lowest has all", x.view(0, -1), x.table(0, 1));
            due("views of another", x.table(1, 2), 6);
        }
        TypedTables y = made("a,b\n1,2\n3,4\n", "a\n1\n", "a\n1\n2\n");
        for (int t = 0; t < 3; t++) {
            y.cut(t, 0, 1);
        }
        due("joined", y.joined(0, 0, 1, 0, 2), 1);
        due("views of what it was", y.table(2, 2), 0);
        due("views of a", y.table(0, 2), 1);
        due("views of b", y.table(1, 2), 1);
        due("refused", put(y, 0, 2, 0, "1"), false);
        due("refused", read(y, 0, "\""), -1);
        due("refused", row(y, 0, "1"), -1);
        due("refused", y.out(0, 2), -1);
        due("refused", y.joined(1, 0, 2, 2, 0), -1);
        due("what is refused changes nothing", y.table(0, 2), 1);
        y.dialect(0, 59);
        y.write(0);
        due("nor do these", y.table(0, 2), 1);
    }

    // ---- ==== 3, numbers

    private static void countAndSum() {
        term(3, "OVER a COLUMN of the top VIEW: how many CELLS have bytes; of INT, FIXED, BOOL: their SUM (0 of none);");
        TypedTables x = all();
        long[] sums = {13, 45000, 2, NO_NUMBER, NO_NUMBER, NO_NUMBER};
        for (int c = 0; c < 6; c++) {
            due("how many", x.over(0, c, 0), c == 5 ? 0 : 4);
            due("sum", x.over(0, c, 1), sums[c]);
        }
        x.cut(0, 2, 2);
        due("of the top view", x.over(0, 0, 0), 1);
        due("of the top view", x.over(0, 0, 1), 2);
        x.cut(0, 0, 1);
        due("none has bytes", x.over(0, 0, 0), 0);
        for (int c = 0; c < 3; c++) {
            due("0 of none", x.over(0, c, 1), 0);
        }
        x.cut(0, 0, 0);
        due("0 of no rows", x.over(0, 0, 1), 0);
        TypedTables y = column();
        due("type", y.type(0, 0, 1), true);
        due("0 of no rows", y.over(0, 0, 1), 0);
        String most = "999999999.9999\n";
        TypedTables z = made("n\n" + most.repeat(40), "n\n" + ("-" + most).repeat(40));
        due("the greatest sum", z.over(0, 0, 1), 40 * 9999999999999L);
        due("the least sum", z.over(1, 0, 1), -40 * 9999999999999L);
    }

    private static void leastAndGreatest() {
        term(3, "the ROW of the least, the greatest VALUE (of several the first in the VIEW);");
        TypedTables x = column("5", "", "-2", "9", "-2", "9", "5");
        due("least", x.over(0, 0, 2), 2);
        due("greatest", x.over(0, 0, 3), 3);
        x.order(0, 0, true);
        due("least", x.over(0, 0, 2), 2);
        TypedTables y = column("1", "x", "1.0", "y");
        due("least as TEXT", y.over(0, 0, 2), 0);
        due("greatest as TEXT", y.over(0, 0, 3), 3);
        TypedTables z = made("k,n\n3,1\n2,1.0\n1,1.00\n");
        z.order(0, 0, false);
        due("the first in the view", z.over(0, 1, 2), 2);
        due("the first in the view", z.over(0, 1, 3), 2);
        due("of one", column("7").over(0, 0, 2), 0);
    }

    private static void median() {
        term(3, "MEDIAN: the VALUE at half (downwards) of them by VALUE (ROW of it: of like ones by ORDERED up);");
        due("of one", column("5").over(0, 0, 4), 0);
        due("of two", column("5", "3").over(0, 0, 4), 0);
        due("of three", column("5", "3", "4").over(0, 0, 4), 2);
        due("of four", column("5", "3", "4", "9").over(0, 0, 4), 0);
        due("of five", column("5", "3", "4", "9", "1").over(0, 0, 4), 2);
        due("without those without bytes", column("", "5", "", "3", "").over(0, 0, 4), 1);
        due("of like ones", column("5", "5", "5").over(0, 0, 4), 1);
        due("of like ones", column("5", "4", "5", "5").over(0, 0, 4), 2);
        TypedTables x = made("k,n\n3,5\n2,5.0\n1,5.00\n");
        x.order(0, 0, false);
        x.cut(0, 0, 2);
        due("as they are in the view", x.over(0, 1, 4), 1);
        due("of TEXT", column("b", "a", "c").over(0, 0, 4), 0);
        due("of DATE", column("2024-01-03", "2024-01-01", "2024-01-02").over(0, 0, 4), 2);
    }

    private static void mode() {
        term(3, "MODE: the ROW of the VALUE that the most have (of several the first ROW in the VIEW with one).");
        TypedTables x = column("1", "2", "", "2.0", "1.5", "", "");
        due("row", x.over(0, 0, 5), 1);
        due("how many", x.over(0, 0, 6), 2);
        TypedTables y = column("a", "b", "b", "a", "c");
        due("of several the first", y.over(0, 0, 5), 0);
        y.order(0, 0, true);
        due("in the view", y.over(0, 0, 5), 1);
        due("how many", y.over(0, 0, 6), 2);
        due("each once", column("q", "p").over(0, 0, 5), 0);
        due("each once", column("q", "p").over(0, 0, 6), 1);
        due("a later one has more", column("q", "p", "p").over(0, 0, 5), 1);
        due("all", made("a\n" + "7\n".repeat(40)).over(0, 0, 6), 40);
    }

    private static void groups() {
        term(3, "GROUPS by a COLUMN: UNLIKE of the top VIEW (no bytes, too), in this order: of each how many, and SUM of another"
            + " COLUMN.");
        TypedTables x = made("k,n\nb,1\n,2.5\na,4\nb,8\n,\n");
        long[][] want = {{0, 2, 90000}, {1, 2, 25000}, {2, 1, 40000}};
        due("groups", x.group(0, 0, -1, 0, 1), 3);
        for (int i = 0; i < 3; i++) {
            for (int what = 0; what < 3; what++) {
                due("group " + i + " " + what, x.group(0, 0, i, what, 1), want[i][what]);
            }
        }
        x.order(0, 0, true);
        due("of the top view", x.group(0, 0, 0, 0, 1), 1);
        due("of the top view", x.group(0, 0, 1, 0, 1), 0);
        x.cut(0, 1, 2);
        due("of the top view", x.group(0, 0, -1, 0, 1), 2);
        due("how many", x.group(0, 0, 0, 1, 1), 1);
        due("sum of none", x.group(0, 0, 0, 2, 1), 0);
    }

    // ---- ==== 3, JOINED

    private static void joinedTables() {
        term(3, "JOINED: of TABLE a and b (their top VIEWS; they may be one) by a COLUMN each into TABLE c (another one; what it was"
            + " goes):");
        TypedTables x = made("k,v\n1,a\n2,b\n1,c\n", "k,w\n2,p\n1,q\n1,r\n", "old\n9\n");
        x.order(0, 1, true);
        x.cut(1, 0, 2);
        due("joined", x.joined(0, 0, 1, 0, 2), 3);
        due("of their top views", cells(x, 2), "1!c!q/2!b!p/1!a!q");
        due("what it was is gone", names(x, 2), "k v w");
        due("a and b may be one", x.joined(0, 0, 0, 0, 2), 5);
        due("cells", cells(x, 2), "1!c!c/1!c!a/2!b!b/1!a!c/1!a!a");
        for (int[] same : new int[][] {{0, 1, 0}, {0, 1, 1}, {0, 0, 0}, {1, 1, 1}}) {
            due("c is another one", x.joined(same[0], 0, same[1], 0, same[2]), -1);
        }
        due("c that was not there", made("a\n1\n", "a\n1\n").joined(0, 0, 1, 0, 2), 1);
        due("c ahead of a and b", x.joined(2, 0, 1, 0, 0), 5);
    }

    private static void joinedColumns() {
        term(3, "COLUMNS of a, then of b without its one (8 at most;");
        TypedTables x = made("a,b,c,d\n1,2,3,4\n", "e,f,k,g,h\n5,6,1,7,8\n", "z\n9\n");
        due("8", x.joined(0, 0, 1, 2, 2), 1);
        due("names", names(x, 2), "a b c d e f g h");
        due("cells", cells(x, 2), "1!2!3!4!5!6!7!8");
        due("9", x.joined(1, 2, 1, 2, 2), -1);
        due("9", x.joined(2, 0, 0, 0, 1), -1);
        due("it stays", x.table(1, 0), 5);
        TypedTables y = made("a,b,c,d,e,f,g,h\n1,2,3,4,5,6,7,8\n", "k\n1\n");
        due("8 and its one", y.joined(0, 0, 1, 0, 2), 1);
        due("its one and 8", y.joined(1, 0, 0, 7, 2), 0);
        due("names", names(y, 2), "k a b c d e f g");
    }

    private static void joinedNames() {
        term(3, "a NAME that is there already with _ behind it; if that can't be it is refused);");
        TypedTables x = made("k,v\n1,2\n", "k,v\n1,3\n");
        due("joined", x.joined(0, 0, 1, 0, 2), 1);
        due("names", names(x, 2), "k v v_");
        due("another of its names", x.joined(0, 0, 1, 1, 2), 0);
        due("names", names(x, 2), "k v k_");
        TypedTables y = made("k,elevenbytes\n1,2\n", "k,elevenbytes\n1,3\n");
        due("12 bytes then", y.joined(0, 0, 1, 0, 2), 1);
        due("names", names(y, 2), "k elevenbytes elevenbytes_");
        TypedTables z = made("k,twelve_bytes\n1,2\n", "k,twelve_bytes\n1,3\n");
        due("13 bytes then", z.joined(0, 0, 1, 0, 2), -1);
        due("no table", z.look(6), 3);
        due("acts", z.look(7), 2);
        due("its one is not there", z.joined(0, 0, 1, 1, 2), 0);
        TypedTables w = made("k,v,v_\n1,2,3\n", "k,v\n1,3\n");
        due("that is there, too", w.joined(0, 0, 1, 0, 2), -1);
        TypedTables u = made("k,v\n1,2\n", "k,v,v_\n1,3,4\n");
        due("joined", u.joined(0, 0, 1, 0, 2), 1);
        due("one behind the other", names(u, 2), "k v v_ v__");
        TypedTables t = made("k,v\n1,2\n", "k,v_,v\n1,3,4\n");
        due("b's own name is there", t.joined(0, 0, 1, 0, 2), -1);
    }

    private static void joinedTypes() {
        term(3, "ROWS: of each ROW of a those of b with a like VALUE (both TYPES alike, or INT with FIXED by 10000 times it, else it is"
            + " refused;");
        String[] of = {"\"\"", "yes", "7", "7.5", "2024-02-29", "x"};
        for (int one = 0; one < 6; one++) {
            for (int other = 0; other < 6; other++) {
                TypedTables x = made("a\n" + of[one] + "\n", "b\n" + of[other] + "\n");
                boolean can = one == other || (one + other == 5 && one * other == 6);
                int rows = one == other && one != 0 ? 1 : 0;
                due("types " + one + " and " + other, x.joined(0, 0, 1, 0, 2), can ? rows : -1);
                due("tables", x.look(6), can ? 7 : 3);
                due("matches", x.matches(0, 0, 1, 0), can ? rows : -1);
            }
        }
        TypedTables y = made("a\n999999999\n-1\n7\n", "b,c\n7.0,p\n999999999.0,q\n-1.0000,r\n7.0001,s\n-0.9999,t\n");
        due("INT with FIXED", y.joined(0, 0, 1, 0, 2), 3);
        due("by 10000 times it", cells(y, 2), "999999999!q/-1!r/7!p");
        due("FIXED with INT", y.joined(1, 0, 0, 0, 2), 3);
        due("a's cells", cells(y, 2), "7.0!p/999999999.0!q/-1.0000!r");
        TypedTables z = made("a\n1\n", "b\n1.0\n");
        z.type(0, 0, TEXT);
        due("TEXT with FIXED", z.joined(0, 0, 1, 0, 2), -1);
        z.type(1, 0, TEXT);
        due("TEXT by bytes", z.joined(0, 0, 1, 0, 2), 0);
    }

    private static void joinedRows() {
        term(3, "CELLS without bytes match none), in b's order;");
        TypedTables x = made("a,b\n,1\n7,2\n,3\n", "c,d\n,p\n7,q\n,r\n7,s\n");
        due("joined", x.joined(0, 0, 1, 0, 2), 2);
        due("cells", cells(x, 2), "7!2!q/7!2!s");
        x.order(1, 1, true);
        due("joined", x.joined(0, 0, 1, 0, 2), 2);
        due("in b's order", cells(x, 2), "7!2!s/7!2!q");
        due("EMPTY with EMPTY", made("a\n\"\"\n", "b\n\"\"\n").joined(0, 0, 1, 0, 2), 0);
        term(3, "40 at most, else it is refused.");
        TypedTables y = made("a\n" + "1\n".repeat(5), "b\n" + "1\n".repeat(8), "z\n");
        due("40", y.joined(0, 0, 1, 0, 2), 40);
        due("undo", y.undo(), 3);
        row(y, 0, "2");
        row(y, 1, "2");
        due("41", y.joined(0, 0, 1, 0, 2), -1);
        due("it stays", names(y, 2), "z");
        due("acts", y.look(7), 5);
        y.cut(0, 0, 5);
        due("40 of the top views", y.joined(0, 0, 1, 0, 2), 40);
        TypedTables w = made("a\n" + "1\n".repeat(40), "z\n");
        due("1600", w.joined(0, 0, 0, 0, 1), -1);
    }

    private static void joinedTold() {
        term(3, "TOLD TYPES go along.");
        TypedTables x = made("k,v\n1,2\n", "w,k,u\n3,1,4\n");
        x.type(0, 0, 3);
        x.type(0, 1, TEXT);
        x.type(1, 0, 3);
        x.type(1, 1, 2);
        due("joined", x.joined(0, 0, 1, 1, 2), 1);
        int[] told = {3, TEXT, 3, -1};
        for (int c = 0; c < 4; c++) {
            due("told " + c, x.column(2, c, 2), told[c]);
        }
        due("they hold", put(x, 2, 0, 2, "x"), false);
    }

    // ---- promises 13 and 15 to 20

    private static void joined() {
        promise(13, "JOINED into c: how many ROWS; NONE if it can't be.");
        TypedTables x = made("a,b\n1,2\n3,4\n", "c,d\n1,2\n");
        int[] none = {-1, 3, -2, 100, Integer.MIN_VALUE, Integer.MAX_VALUE};
        for (int n : none) {
            due("no a", x.joined(n, 0, 1, 0, 2), -1);
            due("no column", x.joined(0, n, 1, 0, 2), -1);
            due("no b", x.joined(0, 0, n, 0, 2), -1);
            due("no column", x.joined(0, 0, 1, n, 2), -1);
            due("no c", x.joined(0, 0, 1, 0, n), -1);
        }
        due("no column", x.joined(0, 2, 1, 0, 2), -1);
        due("no column", x.joined(0, 0, 1, 2, 2), -1);
        due("no a", x.joined(2, 0, 1, 0, 0), -1);
        due("no b", x.joined(0, 0, 2, 0, 1), -1);
        due("acts", x.look(7), 2);
        due("one row", x.joined(0, 0, 1, 0, 2), 1);
        due("no rows", x.joined(0, 1, 1, 0, 2), 0);
        due("acts", x.look(7), 4);
    }

    private static void narrow() {
        promise(15, "NARROWED (how 0 .. 5: = # < <= > >=, 6 HOLDS, 7 has none): how many ROWS; NONE if it can't be.");
        int[] want = {1, 2, 1, 2, 1, 2, 1, 1};
        for (int how = 0; how < 8; how++) {
            TypedTables x = column("1", "2", "3", "");
            due("narrow by " + how, narrow(x, 0, 0, how, "2"), want[how]);
        }
        TypedTables y = column("1", "2", "3", "");
        for (int n : new int[] {-1, 8, -2, Integer.MIN_VALUE, Integer.MAX_VALUE}) {
            due("another how", narrow(y, 0, 0, n, "2"), -1);
            due("no such table", narrow(y, n, 0, 7, "2"), -1);
            due("no such column", narrow(y, 0, n, 7, "2"), -1);
        }
        due("no such table", narrow(y, 1, 0, 7, "2"), -1);
        due("no such table", narrow(y, 3, 0, 7, "2"), -1);
        due("no such column", narrow(y, 0, 1, 7, "2"), -1);
        due("views", y.table(0, 2), 0);
        due("acts", y.look(7), 1);
    }

    private static void narrowTape() {
        promise(15, "(THE TAPE is what it is compared with; for 7, too, it is empty then.)");
        for (int how = -1; how < 9; how++) {
            TypedTables x = column("1", "2", "");
            narrow(x, 0, 0, how, "2");
            due("tape", x.look(8), 0);
            narrow(x, 0, 0, how, "not held, and too long");
            due("tape", x.look(8), 0);
            narrow(x, 0, 5, how, "2");
            due("tape", x.look(8), 0);
            narrow(x, 2, 0, how, "2");
            due("tape", x.look(8), 0);
        }
        due("7 takes any", narrow(column("1", ""), 0, 0, 7, "\t" + TWENTY), 1);
        due("7 takes none", column("1", "").narrow(0, 0, 7), 1);
    }

    private static void order() {
        promise(16, "ORDERED: how many ROWS; NONE if it can't be.");
        TypedTables x = made("a\n2\n1\n", "a\n");
        for (int n : new int[] {-1, 1, 3, -2, Integer.MIN_VALUE, Integer.MAX_VALUE}) {
            due("no such column", x.order(0, n, false), -1);
            if (n != 1) {
                due("no such table", x.order(n, 0, false), -1);
            }
        }
        due("no such table", x.order(2, 0, true), -1);
        due("views", x.table(0, 2), 0);
        due("order", x.order(0, 0, false), 2);
        due("no rows", x.order(1, 0, true), 0);
        x.cut(0, 1, 1);
        due("of the top view", x.order(0, 0, true), 1);
        due("acts", x.look(7), 2);
    }

    private static void cut() {
        promise(17, "CUT from a place (0 ..) on n (0 ..): how many ROWS;");
        int most = Integer.MAX_VALUE;
        int[][] cuts = {{0, 0, 0}, {0, 1, 1}, {0, 5, 5}, {4, 1, 1}, {2, 2, 2}, {1, 4, 4}};
        for (int[] c : cuts) {
            TypedTables x = all();
            due("cut", x.cut(0, c[0], c[1]), c[2]);
            due("first", x.view(0, 0), c[2] == 0 ? -1 : c[0]);
            due("last", x.view(0, c[2] - 1), c[2] == 0 ? 0 : c[0] + c[2] - 1);
        }
        promise(17, "NONE if it can't be (beyond the end there are fewer).");
        int[][] fewer = {{0, 6, 5}, {4, 2, 1}, {5, 0, 0}, {5, 1, 0}, {6, 1, 0}, {most, most, 0}, {0, most, 5}, {1, most, 4}, {most, 0, 0}};
        for (int[] c : fewer) {
            due("beyond the end", all().cut(0, c[0], c[1]), c[2]);
        }
        TypedTables y = all();
        for (int n : new int[] {-1, -2, Integer.MIN_VALUE}) {
            due("below 0", y.cut(0, n, 1), -1);
            due("below 0", y.cut(0, 0, n), -1);
            due("no such table", y.cut(n, 0, 1), -1);
        }
        due("no such table", y.cut(1, 0, 1), -1);
        due("no such table", y.cut(3, 0, 1), -1);
        due("views", y.table(0, 2), 0);
    }

    private static void unlike() {
        promise(18, "UNLIKE: how many ROWS; NONE if it can't be.");
        TypedTables x = made("a\n1\n1\n2\n", "a\n");
        due("unlike", x.unlike(0, 0), 2);
        due("no rows", x.unlike(1, 0), 0);
        for (int n : new int[] {-1, 1, 3, -2, Integer.MIN_VALUE, Integer.MAX_VALUE}) {
            due("no such column", x.unlike(0, n), -1);
            if (n != 1) {
                due("no such table", x.unlike(n, 0), -1);
            }
        }
        due("no such table", x.unlike(2, 0), -1);
        due("views", x.table(0, 2), 1);
    }

    private static void back() {
        promise(19, "The top VIEW is taken off: how many are left above the lowest; NONE if there are none.");
        TypedTables x = made("a\n1\n2\n", "a\n");
        due("none", x.back(0), -1);
        x.cut(0, 0, 1);
        x.cut(0, 0, 0);
        due("one left", x.back(0), 1);
        due("that one", x.view(0, -1), 1);
        due("none left", x.back(0), 0);
        due("the lowest", x.view(0, -1), 2);
        due("none", x.back(0), -1);
        due("the lowest stays", x.view(0, -1), 2);
        for (int t : new int[] {2, -1, 3, Integer.MIN_VALUE, Integer.MAX_VALUE}) {
            due("no such table", x.back(t), -1);
        }
    }

    private static void view() {
        promise(20, "The ROW at place i of the top VIEW; i NONE: how many. NONE if there is none such.");
        TypedTables x = made("a\n1\n2\n3\n", "a\n");
        x.order(0, 0, true);
        due("first", x.view(0, 0), 2);
        due("last", x.view(0, 2), 0);
        due("beyond", x.view(0, 3), -1);
        due("how many", x.view(0, -1), 3);
        due("none of no rows", x.view(1, 0), -1);
        due("how many of no rows", x.view(1, -1), 0);
        for (int far : FAR) {
            due("none such", x.view(0, far), -1);
            due("no such table", x.view(far, 0), -1);
            due("no such table", x.view(far, -1), -1);
        }
        for (int t : new int[] {2, -1, 3}) {
            due("no such table", x.view(t, 0), -1);
            due("no such table", x.view(t, -1), -1);
        }
        x.cut(0, 1, 1);
        due("of the top one", x.view(0, 0), 1);
        due("of the top one", x.view(0, 1), -1);
    }

    // ---- promises 31 to 34

    private static void over() {
        promise(31, "OVER a COLUMN what 0 how many have bytes, 1 SUM (FIXED: 10000 times), 2 ROW of the least, 3 of the greatest, 4 of"
            + " MEDIAN, 5 of MODE, 6 how many have the VALUE of MODE.");
        TypedTables x = column("5", "", "-2.5", "9", "5.0", "-3");
        long[] want = {5, 135000, 5, 3, 0, 0, 2};
        for (int what = 0; what < 7; what++) {
            due("over " + what, x.over(0, 0, what), want[what]);
        }
    }

    private static void overNone() {
        promise(31, "NONE - 99999999999999 if there is none such (1 of DATE, TEXT, EMPTY, too), or another what.");
        TypedTables x = all();
        due("sum of DATE", x.over(0, 3, 1), NO_NUMBER);
        due("sum of TEXT", x.over(0, 4, 1), NO_NUMBER);
        due("sum of EMPTY", x.over(0, 5, 1), NO_NUMBER);
        due("how many of EMPTY", x.over(0, 5, 0), 0);
        for (int what = 2; what < 7; what++) {
            due("of EMPTY " + what, x.over(0, 5, what), NO_NUMBER);
        }
        for (int n : new int[] {-1, 7, -2, Integer.MIN_VALUE, Integer.MAX_VALUE}) {
            due("another what", x.over(0, 0, n), NO_NUMBER);
            due("another what of EMPTY", x.over(0, 5, n), NO_NUMBER);
            due("no such table", x.over(n, 0, 0), NO_NUMBER);
            due("no such column", x.over(0, n, 0), NO_NUMBER);
        }
        for (int what = 0; what < 7; what++) {
            due("no such table", x.over(1, 0, what), NO_NUMBER);
            due("no such table", x.over(3, 0, what), NO_NUMBER);
            due("no such column", x.over(0, 6, what), NO_NUMBER);
        }
        x.cut(0, 0, 0);
        for (int what = 2; what < 7; what++) {
            due("of no rows " + what, x.over(0, 0, what), NO_NUMBER);
        }
        due("told TEXT", x.type(0, 0, TEXT), true);
        due("sum of TEXT", x.over(0, 0, 1), NO_NUMBER);
    }

    private static void group() {
        promise(32, "GROUPS by a COLUMN: of the i-th what 0 its first ROW in the VIEW, 1 how many, 2 SUM of another COLUMN (by: that);"
            + " i NONE: how many GROUPS.");
        TypedTables x = made("k,n,f,b\nb,1,0.5,yes\na,2,1,no\nb,4,2,true\n");
        x.order(0, 1, true);
        due("groups", x.group(0, 0, -1, 0, 0), 2);
        due("first row in the view", x.group(0, 0, 0, 0, 0), 2);
        due("first row in the view", x.group(0, 0, 1, 0, 0), 1);
        due("how many", x.group(0, 0, 0, 1, 0), 2);
        due("sum of INT", x.group(0, 0, 0, 2, 1), 5);
        due("sum of FIXED", x.group(0, 0, 0, 2, 2), 25000);
        due("sum of BOOL", x.group(0, 0, 0, 2, 3), 2);
        due("by is for a sum", x.group(0, 0, 0, 1, 77), 2);
        due("groups of no rows", made("a\n").group(0, 0, -1, 0, 0), 0);
        due("40 groups", made("a\n" + numbers(40)).group(0, 0, -1, 0, 0), 40);
        due("the 40th", made("a\n" + numbers(40)).group(0, 0, 39, 0, 0), 39);
    }

    private static String numbers(int n) {
        StringBuilder text = new StringBuilder();
        for (int i = 0; i < n; i++) {
            text.append(i).append('\n');
        }
        return text.toString();
    }

    private static void groupNone() {
        promise(32, "NONE - 99999999999999 if there is none such (as of over()), or another what.");
        TypedTables x = made("k,d,e,t\n1,2024-01-01,,x\n2,2024-01-01,,y\n");
        for (int what = 0; what < 3; what++) {
            due("beyond", x.group(0, 0, 2, what, 0), NO_NUMBER);
            for (int far : FAR) {
                due("no such group", x.group(0, 0, far, what, 0), NO_NUMBER);
                due("no such table", x.group(far, 0, 0, what, 0), NO_NUMBER);
                due("no such column", x.group(0, far, 0, what, 0), NO_NUMBER);
            }
            due("no such table", x.group(1, 0, 0, what, 0), NO_NUMBER);
            due("no such column", x.group(0, 4, 0, what, 0), NO_NUMBER);
        }
        due("no such table", x.group(1, 0, -1, 0, 0), NO_NUMBER);
        due("no such table", x.group(3, 0, -1, 0, 0), NO_NUMBER);
        due("no such table", x.group(-1, 0, -1, 0, 0), NO_NUMBER);
        due("no such column", x.group(0, 4, -1, 0, 0), NO_NUMBER);
        due("no such column", x.group(0, -1, -1, 0, 0), NO_NUMBER);
        due("no groups", made("a\n").group(0, 0, 0, 0, 0), NO_NUMBER);
        for (int what : new int[] {-1, 3, -2, Integer.MIN_VALUE, Integer.MAX_VALUE}) {
            due("another what", x.group(0, 0, 0, what, 0), NO_NUMBER);
        }
        for (int by : new int[] {1, 2, 3, 4, -1, -2, Integer.MIN_VALUE, Integer.MAX_VALUE}) {
            due("no sum by " + by, x.group(0, 0, 0, 2, by), NO_NUMBER);
        }
        due("as of over(): 0 of none", made("k,n\n1,\n2,5\n").group(0, 0, 0, 2, 1), 0);
    }

    private static void matches() {
        promise(33, "How many pairs of ROWS of two TABLES' top VIEWS match by a COLUMN each (as JOINED; a TABLE with itself, too).");
        TypedTables x = made("a,t\n1,x\n2,\n1,y\n,\n", "b,t\n1.0,y\n1,x\n3,\n,x\n");
        due("INT with FIXED", x.matches(0, 0, 1, 0), 4);
        due("FIXED with INT", x.matches(1, 0, 0, 0), 4);
        due("TEXT", x.matches(0, 1, 1, 1), 3);
        due("with itself", x.matches(0, 0, 0, 0), 5);
        x.cut(0, 0, 2);
        due("top views", x.matches(0, 0, 1, 0), 2);
        due("with itself", x.matches(0, 0, 0, 0), 2);
        due("more than 40", made("a\n" + "7\n".repeat(40)).matches(0, 0, 0, 0), 1600);
        due("none of no rows", made("a\n", "a\n").matches(0, 0, 1, 0), 0);
        due("no acts", x.look(7), 2);
        TypedTables y = made("a,b,c,d,twelve_bytes\n1,,,,\n", "a,b,c,d,twelve_bytes\n1,,,,\n");
        due("COLUMNS and NAMES don't matter", y.matches(0, 0, 1, 0), 1);
        promise(33, "NONE if their TYPES can't, or there are none such.");
        due("INT with TEXT", x.matches(0, 0, 1, 1), -1);
        due("EMPTY with INT", made("a\n", "a\n1\n").matches(0, 0, 1, 0), -1);
        for (int n : new int[] {-1, 2, 3, -2, Integer.MIN_VALUE, Integer.MAX_VALUE}) {
            due("none such", x.matches(n, 0, 1, 0), -1);
            due("none such", x.matches(0, n, 1, 0), -1);
            due("none such", x.matches(0, 0, n, 0), -1);
            due("none such", x.matches(0, 0, 1, n), -1);
        }
    }

    private static void differ() {
        promise(34, "How many CELLS (by ROWS, COLUMNS; where just one has one, too) two TABLES differ in by their bytes.");
        TypedTables x = made("a,b\n1,\n3,4\n", "c,d\n1.0,\n3,4\n", "e,f,g\n1,,\n");
        due("itself", x.differ(0, 0), 0);
        due("by their bytes", x.differ(0, 1), 1);
        due("where just one has one", x.differ(0, 2), 3);
        due("where just one has one", x.differ(2, 0), 3);
        x.order(0, 0, true);
        due("not by a view", x.differ(0, 1), 1);
        TypedTables y = made("a\n", "a,b,c,d,e,f,g,h\n" + ",,,,,,,\n".repeat(40));
        due("all", y.differ(0, 1), 320);
        due("all", y.differ(1, 0), 320);
        due("none of no rows", made("a\n", "b,c\n").differ(0, 1), 0);
        TypedTables z = made("a\n12\n", "a\n1\n", "a\n13\n");
        due("a begin is another", z.differ(0, 1), 1);
        due("the last byte", z.differ(0, 2), 1);
        promise(34, "NONE if there are none such.");
        for (int n : new int[] {-1, 2, 3, -2, Integer.MIN_VALUE, Integer.MAX_VALUE}) {
            due("none such", y.differ(0, n), -1);
            due("none such", y.differ(n, 0), -1);
        }
    }
}
