/** Promises 1 to 6 and 8: a new object, the dialect, the tape, reading and its faults. */
public final class ReadTest {
    public static void main(String[] args) {
        newObject();
        dialect();
        tape();
        fields();
        lines();
        ragged();
        faultsOfBytes();
        faultsOfLength();
        faultsOfNumber();
        faultsOfNames();
        faultsOfWidth();
        faultsTold();
        trim();
        row();
        rowFaults();
        endOfTape();
        fullTable();
        Check.finish();
    }

    private static void due(String call, long got, long want) {
        Check.due(call, got, want);
    }

    /** Reads a text into TABLE 0 of a new object with some of the dialect (what, v, what, v, ..). */
    private static TypedTables read(String text, int want, int... dialect) {
        TypedTables x = new TypedTables();
        for (int i = 0; i + 1 < dialect.length; i += 2) {
            Check.due("dialect", x.dialect(dialect[i], dialect[i + 1]), true);
        }
        due("read <" + text + ">", Check.read(x, 0, text), want);
        return x;
    }

    private static void cells(String text, String want, int... dialect) {
        int rows = want.isEmpty() ? 1 : want.split("/", -1).length;
        Check.due("cells of <" + text + ">", Check.cells(read(text, rows, dialect), 0), want);
    }

    private static void fault(String text, String want, int... dialect) {
        Check.due("fault of <" + text + ">", Check.fault(read(text, -1, dialect)), want);
    }

    private static void newObject() {
        TypedTables x = new TypedTables();
        due("look(6)", x.look(6), 0);
        for (int t = -1; t < 4; t++) {
            due("table", x.table(t, 0), -1);
        }
        Check.due("fault", Check.fault(x), "0 -1 -1 -1 -1");
    }

    private static void dialect() {
        int[][] can = {{44, 59, 124, 9}, {34, 39}, {0, 1}, {0, 1}, {0, 1, 2, 3}, {0, 35, 37, 42}};
        TypedTables x = new TypedTables();
        for (int what = 0; what < 6; what++) {
            for (int v : can[what]) {
                Check.due("dialect", x.dialect(what, v), true);
                due("look", x.look(what), v);
            }
            int last = x.look(what);
            for (int v : new int[] {-1, 4, 10, 32, 43, 45, 256, Integer.MIN_VALUE}) {
                Check.due("dialect(" + what + ", " + v + ")", x.dialect(what, v), false);
                due("look", x.look(what), last);
            }
        }
        Check.due("dialect(-1, 0)", x.dialect(-1, 0), false);
        Check.due("dialect(6, 0)", x.dialect(6, 0), false);
        Check.due("dialect(2, 2)", x.dialect(2, 2), false);
        Check.due("dialect(1, 44)", x.dialect(1, 44), false);
    }

    private static void tape() {
        TypedTables x = new TypedTables();
        for (int i = 1; i <= 40; i++) {
            due("feed", x.feed(0, 0, 0, 0, 0), 20 * i);
        }
        due("feed beyond", x.feed(0, 0, 0, 0, 0), -1);
        due("look(8)", x.look(8), 800);
        Check.due("end(800)", x.end(800), true);
        Check.due("end(801)", x.end(801), false);
        Check.due("end(-1)", x.end(-1), false);
        Check.due("end(781)", x.end(781), true);
        due("feed beyond", x.feed(0, 0, 0, 0, 0), -1);
        Check.due("end(780)", x.end(780), true);
        due("feed", x.feed(0, 0, 0, 0, 0), 800);
        Check.due("end(0)", x.end(0), true);
        due("look(8)", x.look(8), 0);
        x.feed(0x61626364, 0x0a313233, 0x34350a36, 0x0a370a38, 0x0a390a0a);
        due("read of what was fed", x.read(0), 5);
        Check.due("highest first", Check.nameOf(x, 0, 0), "abcd");
        Check.due("highest first", Check.cells(x, 0), "12345/6/7/8/9");
    }

    private static void fields() {
        cells("a,b\n1,2\n3,4\n", "1!2/3!4");
        cells("a,b\n1,2\n3,4", "1!2/3!4");
        cells("a,b\n,\n", "!");
        cells("a\n\"\"\n", "");
        cells("a,b\n\"x,y\",\"p\nq\"\n", "x,y!p\nq");
        cells("a\n\"say \"\"so\"\"\"\n", "say \"so\"");
        cells("a\n\"\"\"\"", "\"");
        cells("a;b\n1,5;'it''s'\n", "1,5!it's", 0, 59, 1, 39);
        cells("a|b\n\"|\"|'\n", "|!'", 0, 124);
        cells("a\tb\n1\t 2\n", "1! 2", 0, 9);
        cells("a,b\n x , y \n", " x ! y ");
        cells("\"a\",b\n1,2\n", "1!2");
        TypedTables x = read("", -1);
        due("header alone", Check.read(x, 0, "a,b"), 0);
        due("columns", x.table(0, 0), 2);
        due("the tape is empty then", x.look(8), 0);
    }

    private static void lines() {
        cells("\n\na\n\n1\n\n\n2\n\n", "1/2");
        cells("#c\"\na\n#1,2,3\n1\n#\n", "1", 5, 35);
        cells("a\n#1\n", "#1");
        cells("a\n%1\n#\n", "a/#", 5, 37, 2, 0);
        TypedTables y = read("p,q,r\n1,2,3\n", 2, 2, 0);
        Check.due("names", Check.names(y, 0), "c0 c1 c2");
        Check.due("cells", Check.cells(y, 0), "p!q!r/1!2!3");
        TypedTables z = read("a\n1#\n *2\n*3\n", 2, 5, 42, 3, 1);
        Check.due("a blank is the first byte", Check.cells(z, 0), "1#/*2");
    }

    private static void ragged() {
        cells("a,b,c\n1\n1,2\n", "1!!/1!2!", 4, 1);
        cells("a,b\n1,2,3,4\n", "1!2", 4, 2);
        cells("a,b\n1,2,3\n1\n", "1!2/1!", 4, 3);
        fault("a,b\n1\n", "8 5 1 1 1", 4, 2);
        fault("a,b\n1,2,3\n", "8 7 1 3 3", 4, 1);
        fault("a\n1,2,x\"\n", "2 7 1 5 2", 4, 2);
        fault("a\n1,123456789012345678901\n", "5 24 1 22 1", 4, 2);
        fault("a\n1,2,3,4,5,6,7,8,9\n", "6 17 1 15 -1", 4, 2);
    }

    private static void faultsOfBytes() {
        fault("a\n1\t\n", "1 3 1 1 0");
        fault("a\tb\n\"\t\"\t\n", "1 5 1 1 0", 0, 9);
        fault("a,b\n1,\"x\0\"\n", "1 8 1 4 1");
        fault("a\n\0\n", "1 2 1 0 0");
        fault("a\n1" + (char) 127, "1 3 1 1 0");
        fault("a\n1" + (char) 255, "1 3 1 1 0");
        fault("a\n\"x\"" + (char) 13 + "\n", "1 5 1 3 0");
        fault("a,b\n1,x\"y\n", "2 7 1 3 1");
        fault("a\n \"x\"\n", "2 3 1 1 0");
        fault("a\n\"x\"y\n", "3 5 1 3 0");
        fault("a\n\"x\" \n", "3 5 1 3 0");
        fault("a,b\n1,\"x\n\ny", "4 11 3 1 1");
        fault("\"", "4 1 0 1 0");
        fault("a\n\"x\"\"", "4 6 1 4 0");
        cells("a\n#" + (char) 1 + "\t\"\n1\n", "1", 5, 35);
    }

    private static void faultsOfLength() {
        String twenty = "12345678901234567890";
        cells("a\n" + twenty + "\n", twenty);
        cells("a\n\"" + twenty + "\"\n", twenty);
        fault("a\n" + twenty + "1\n", "5 22 1 20 0");
        fault("a\n" + twenty + "\"\n", "2 22 1 20 0");
        fault("a\n" + twenty + "\t\n", "1 22 1 20 0");
        fault("a\n\"" + twenty + "1\"\n", "5 23 1 21 0");
        fault("a\n\"" + twenty + "\"\"\"\n", "5 24 1 22 0");
        cells("a\n\"" + twenty.substring(1) + "\"\"\"\n", twenty.substring(1) + "\"");
        fault(twenty + "x\n", "5 20 0 20 0");
    }

    private static void faultsOfNumber() {
        fault("a,b,c,d,e,f,g,h,i\n", "6 15 0 15 -1");
        fault("a,b,c,d,e,f,g,h,\"\n", "6 15 0 15 -1");
        due("8 columns", read("a,b,c,d,e,f,g,h\n", 0).table(0, 0), 8);
        String forty = "a\n" + "1\n".repeat(40);
        due("40 rows", read(forty + "\n#\n", 40, 5, 35).table(0, 1), 40);
        fault(forty + "2\n", "6 82 41 0 -1");
        fault(forty + "\n\"x", "6 83 42 0 -1");
        fault(forty + "\t\n", "1 82 41 0 0");
        fault("1\n".repeat(41), "6 80 40 0 -1", 2, 0);
        due("40 rows", read("1\n".repeat(40), 40, 2, 0).table(0, 1), 40);
        fault("", "9 0 0 0 -1");
        fault("\n\n", "9 2 2 0 -1");
        fault("#a\n#b", "9 5 1 2 -1", 5, 35);
    }

    private static void faultsOfNames() {
        due("a name of 12", read("abcdefghijkl,A_9\n", 0).table(0, 0), 2);
        fault("a,abcdefghijklm\n", "7 2 0 2 1");
        fault("a,,b\n", "7 2 0 2 1");
        fault("a,b,\n1\n", "7 4 0 4 2");
        fault("a,b,a,b\n", "7 4 0 4 2");
        fault("a,b c\n", "7 2 0 2 1");
        fault("a,\"a\"\n", "7 2 0 2 1");
        fault("\n\na b\n", "7 2 2 0 0");
        fault("a, a\n", "7 2 0 2 1", 3, 1);
        fault("a b,x\"\n", "2 5 0 5 1");
        due("like but for case", read("a,A\n", 0).table(0, 0), 2);
        due("no names without HEADER", read("a b,a b,\n", 1, 2, 0).table(0, 0), 3);
    }

    private static void faultsOfWidth() {
        fault("a,b\n1\n", "8 5 1 1 1");
        fault("a,b\n1", "8 5 1 1 1");
        fault("a,b,c\n1,\"2\n3\"\n", "8 13 2 2 2");
        fault("a,b\n1,2,3,4\n", "8 7 1 3 4");
        fault("1,2\n1\n", "8 5 1 1 1", 2, 0);
        fault("a,b\n1\n1,\"\n", "8 5 1 1 1");
        fault("a,b\n1,2,3\"\n", "2 9 1 5 2");
    }

    private static void faultsTold() {
        TypedTables x = read("a\n1\n", 1);
        due("a refused reading", Check.read(x, 0, "a\n1,2\n"), -1);
        Check.due("fault", Check.fault(x), "8 3 1 1 2");
        Check.due("the table is as it was", Check.cells(x, 0), "1");
        due("no act", x.look(7), 1);
        due("readings with a fault", x.look(10), 1);
        due("the tape is empty then", x.look(8), 0);
        due("no such table", Check.read(x, 3, "\""), -1);
        due("no such table", Check.read(x, -1, "\""), -1);
        Check.due("it is no reading", Check.fault(x), "8 3 1 1 2");
        due("readings with a fault", x.look(10), 1);
        due("the tape is empty then", x.look(8), 0);
        due("a reading", Check.read(x, 2, "b\n"), 0);
        Check.due("fault", Check.fault(x), "0 -1 -1 -1 -1");
        due("fault(5)", x.fault(5), -1);
        due("fault(-1)", x.fault(-1), -1);
        due("readings with a fault", x.look(10), 1);
    }

    private static void trim() {
        String twenty = "12345678901234567890";
        cells(" a , b \n 1 ,  2\n", "1!2", 3, 1);
        cells("a,b\n \" x \" ,  \n", " x !", 3, 1);
        cells("a\n  \n", "", 3, 1);
        cells("a\n x  y \n", "x  y", 3, 1);
        cells("a\n" + " ".repeat(25) + twenty + " ".repeat(25) + "\n", twenty, 3, 1);
        fault("a\n" + twenty.substring(2) + "  x\n", "5 22 1 20 0", 3, 1);
        fault("a\n" + twenty + "   x\n", "5 25 1 23 0", 3, 1);
        fault("a\n" + twenty + "   \"\n", "2 25 1 23 0", 3, 1);
        fault("a\nx \"y\"\n", "2 4 1 2 0", 3, 1);
        fault("a\n\"x\"  y\n", "3 7 1 5 0", 3, 1);
        fault("a\n\"x\"  \"\n", "3 7 1 5 0", 3, 1);
        fault("a\n\"x\"  \t\n", "1 7 1 5 0", 3, 1);
        fault("a\n  \t\n", "1 4 1 2 0", 3, 1);
        fault("a\n\"" + twenty + " \"\n", "5 23 1 21 0", 3, 1);
    }

    private static void row() {
        TypedTables x = read("a,b\n1,2\n", 1);
        due("row", Check.row(x, 0, "3,4\n"), 2);
        Check.due("cells", Check.cells(x, 0), "1!2/3!4");
        due("the tape is empty then", x.look(8), 0);
        x.dialect(5, 35);
        due("row", Check.row(x, 0, "\n#\n5,\"6\n\"\n\n#7"), 3);
        Check.due("cells", Check.cells(x, 0), "1!2/3!4/5!6\n");
        x.dialect(4, 3);
        due("ragged", Check.row(x, 0, "7"), 4);
        due("ragged", Check.row(x, 0, "8,9,10"), 5);
        Check.due("cells", Check.cells(x, 0), "1!2/3!4/5!6\n/7!/8!9");
        x.dialect(2, 0);
        due("HEADER aside", Check.row(x, 0, "a,a"), 6);
        due("no such table", Check.row(x, 1, "1"), -1);
        due("the tape is empty then", x.look(8), 0);
        due("no such table", Check.row(x, 3, "1"), -1);
        Check.due("no reading", Check.fault(x), "0 -1 -1 -1 -1");
        Check.due("type", x.type(0, 0, 5), true);
        Check.due("type", x.type(0, 1, 2), false);
        Check.due("put", Check.put(x, 0, 2, 1, "6"), true);
        Check.due("put", Check.put(x, 0, 5, 1, ""), true);
        Check.due("type", x.type(0, 1, 2), true);
        Check.row(x, 0, "\"");
        due("faults", x.look(10), 1);
        due("not held", Check.row(x, 0, "a,b"), -1);
        Check.due("no fault then", Check.fault(x), "0 -1 -1 -1 -1");
        due("faults", x.look(10), 1);
        due("rows", x.table(0, 1), 6);
        due("no bytes are held", Check.row(x, 0, "a"), 7);
        TypedTables y = read("a,b\n1,x\n", 1);
        Check.due("type", y.type(0, 0, 2), true);
        due("not held", Check.row(y, 0, "x,1"), -1);
        due("held", Check.row(y, 0, "1,x"), 2);
    }

    private static void rowFaults() {
        TypedTables x = read("a,b\n1,2\n", 1);
        rowFault(x, "3\n", "8 1 0 1 1");
        rowFault(x, "3,4,5\n", "8 3 0 3 3");
        rowFault(x, "", "9 0 0 0 -1");
        rowFault(x, "\n\n", "9 2 2 0 -1");
        rowFault(x, "3,4\n5,6\n", "6 4 1 0 -1");
        rowFault(x, "3,4\n\n5\"", "6 5 2 0 -1");
        rowFault(x, "3,4\n\t", "1 4 1 0 0");
        rowFault(x, "3\n5,6\n", "8 1 0 1 1");
        rowFault(x, "\"3\n4", "4 4 1 1 0");
        due("faults", x.look(10), 9);
        due("rows", x.table(0, 1), 1);
        for (int i = 2; i <= 40; i++) {
            due("row", Check.row(x, 0, "x,y"), i);
        }
        rowFault(x, "", "6 0 0 0 -1");
        rowFault(x, "\t", "6 0 0 0 -1");
        rowFault(x, "\n\n3,4", "6 0 0 0 -1");
        due("rows", x.table(0, 1), 40);
    }

    /** What was on the tape behind its end, or the end of all room, is not looked at. */
    private static void endOfTape() {
        String[] texts = {"a\n1", "a\n 1 ", "a\n\"1\"", "a\n\"1\" ", "a\n1\n#", "a\n1\n", "a\n \n1"};
        for (String text : texts) {
            for (String behind : new String[] {"", " ", "\"", "\n", "x", "\t", "#", ","}) {
                TypedTables x = new TypedTables();
                x.dialect(3, 1);
                x.dialect(5, 35);
                Check.tape(x, text + behind.repeat(20));
                x.end(text.length());
                due("read <" + text + "> ahead of <" + behind + ">", x.read(0), text.equals("a\n \n1") ? 2 : 1);
            }
            String most = "\n".repeat(800 - text.length()) + text;
            due("a full tape", read(most, text.equals("a\n \n1") ? 2 : 1, 3, 1, 5, 35).look(10), 0);
        }
        fault("\n".repeat(797) + "a\n\"", "4 800 798 1 0");
        fault("\n".repeat(794) + "a,b\n12", "8 800 795 2 1");
        fault("#".repeat(800), "9 800 0 800 -1", 5, 35);
        fault(" ".repeat(800), "7 0 0 0 0", 3, 1);
    }

    private static void fullTable() {
        TypedTables x = read("a,b,c,d,e,f,g,h\n" + "1,2,3,4,5,6,7,8\n".repeat(40), 40);
        due("cells", x.look(9), 320);
        due("bytes", x.table(0, 3), 320);
        due("last", x.value(0, 39, 7), 8);
        due("row", Check.row(x, 0, "1"), -1);
        due("fault", x.fault(0), 6);
        due("read again", Check.read(x, 0, "a,b,c,d,e,f,g,h\n" + "1,2,3,4,5,6,7,8\n".repeat(39)), 39);
        due("row", Check.row(x, 0, ",,,,,,,9"), 40);
        due("last", x.value(0, 39, 7), 9);
    }

    private static void rowFault(TypedTables x, String text, String want) {
        due("row <" + text + ">", Check.row(x, 0, text), -1);
        Check.due("fault of row <" + text + ">", Check.fault(x), want);
        due("the tape is empty then", x.look(8), 0);
    }
}
