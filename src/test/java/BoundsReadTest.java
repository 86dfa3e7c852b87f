/** The first part of the Terms and promises 1 to 6 and 8, sentence by sentence: what just can be, and one beyond. */
public final class BoundsReadTest extends Check {
    private static final int SEPARATOR = 0;
    private static final int QUOTE = 1;
    private static final int HEADER = 2;
    private static final int TRIM = 3;
    private static final int RAGGED = 4;
    private static final int COMMENT = 5;

    private static final String TWENTY = "12345678901234567890";
    private static final String NAMES = "a,b,c,d,e,f,g,h";
    private static final String FORTY = "1\n".repeat(40);

    public static void main(String[] args) {
        tables();
        columns();
        cellBytes();
        dialectValues();
        tapeRoom();
        linesParted();
        linesPassedOver();
        fieldsParted();
        fieldsInQuotes();
        behindQuotes();
        plainFields();
        trimmed();
        firstLine();
        ragged();
        linesOneBehindTheOther();
        firstByPlace();
        leastOfLikePlaces();
        sevenAndEightLast();
        fault1();
        fault2();
        fault3();
        fault4();
        fault5();
        fault5Trimmed();
        fault6();
        fault7();
        fault8();
        fault9();
        passedOverNotLookedAt();
        causes();
        places();
        newObject();
        dialectCall();
        feed();
        end();
        read();
        fault();
        row();
        rowFaults();
        rowRefused();
        finish();
    }

    /** A text that is READ: its CELLS. */
    private static void reads(String want, String text, int... dialect) {
        TypedTables x = with(dialect);
        int rows = read(x, 0, text);
        due("read <" + text + "> has a fault", x.fault(0), 0);
        due("rows of <" + text + ">", rows, x.table(0, 1));
        due("cells of <" + text + ">", cells(x, 0), want);
    }

    private static void columnsOf(String want, String text, int... dialect) {
        TypedTables x = with(dialect);
        due("read <" + text + ">", read(x, 0, text) >= 0, true);
        due("names of <" + text + ">", names(x, 0), want);
    }

    /** A text that has a FAULT (FAULT, place, LINE, COLUMN, CAUSE): then there is no TABLE. */
    private static void faults(String want, String text, int... dialect) {
        TypedTables x = with(dialect);
        due("read <" + text + ">", read(x, 0, text), -1);
        due("fault of <" + text + ">", fault(x), want);
        due("no table", x.look(6), 0);
    }

    // ---- ==== 1

    private static void tables() {
        term(1, "TABLES 0 .. 2, each there or not (at first none is):");
        TypedTables x = new TypedTables();
        due("at first", x.look(6), 0);
        for (int t = 0; t < 3; t++) {
            due("not there", x.table(t, 0), -1);
            due("read", read(x, t, "a\n1\n"), 1);
            due("there", x.table(t, 0), 1);
            due("tables", x.look(6), (2 << t) - 1);
        }
        for (int t : new int[] {-1, 3, Integer.MIN_VALUE, Integer.MAX_VALUE}) {
            due("read(" + t + ")", read(x, t, "a\n1\n"), -1);
            due("table(" + t + ")", x.table(t, 0), -1);
        }
        due("tables", x.look(6), 7);
    }

    private static void columns() {
        term(1, "COLUMNS (1 .. 8), each with a NAME (1 to 12 letters, digits, _; unlike),");
        columnsOf("a", "a\n");
        columnsOf("a b c d e f g h", NAMES + "\n");
        faults("6 15 0 15 -1", NAMES + ",i\n");
        columnsOf("abcdefghijkl a", "abcdefghijkl,a\n");
        faults("7 0 0 0 0", "abcdefghijklm,a\n");
        faults("7 0 0 0 0", ",a\n");
        faults("7 2 0 2 1", "a,a\n");
        columnsOf("a A", "a,A\n");
        for (int b = 0; b < 256; b++) {
            boolean letter = (b >= 'a' && b <= 'z') || (b >= 'A' && b <= 'Z');
            boolean can = letter || (b >= '0' && b <= '9') || b == '_';
            due("name of byte " + b, name(made("other\n"), 0, 0, "" + (char) b), can);
        }
    }

    private static void cellBytes() {
        term(1, "and ROWS (40 at most) of CELLS, one for each COLUMN: 0 to 20 bytes, each 32 .. 126 or 10.");
        due("40 rows", made("a\n" + FORTY).table(0, 1), 40);
        due("41 rows", made("a\n" + FORTY + "1\n").look(6), 0);
        due("one for each column", made("a,b,c\n1,2,3\n4,5,6\n").look(9), 6);
        for (int b = 0; b < 256; b++) {
            boolean can = b == 10 || (b >= 32 && b <= 126);
            due("cell of byte " + b, put(made("a\nx\n"), 0, 0, 0, "" + (char) b), can);
        }
        for (int n = 0; n < 30; n++) {
            due("cell of " + n, put(made("a\nx\n"), 0, 0, 0, "x".repeat(n)), n <= 20);
        }
    }

    private static void dialectValues() {
        term(1, "THE DIALECT: 0 SEPARATOR (44 at first; 44, 59, 124 or 9), 1 QUOTE (34; or 39), 2 HEADER (1; or 0),"
            + " 3 TRIM (0; or 1), 4 RAGGED (0; bits 1 and 2), 5 COMMENT (0: none; 35, 37, 42).");
        String[] can = {" 44 59 124 9 ", " 34 39 ", " 1 0 ", " 0 1 ", " 0 1 2 3 ", " 0 35 37 42 "};
        int[] first = {44, 34, 1, 0, 0, 0};
        for (int what = 0; what < 6; what++) {
            due("at first " + what, new TypedTables().look(what), first[what]);
            for (int v = -3; v < 300; v++) {
                TypedTables x = new TypedTables();
                boolean may = can[what].contains(" " + v + " ");
                due("dialect(" + what + ", " + v + ")", x.dialect(what, v), may);
                due("look(" + what + ")", x.look(what), may ? v : first[what]);
            }
            due("least", new TypedTables().dialect(what, Integer.MIN_VALUE), false);
            due("greatest", new TypedTables().dialect(what, Integer.MAX_VALUE), false);
            due("44 and more", new TypedTables().dialect(what, 44 + 256), false);
        }
    }

    private static void tapeRoom() {
        term(1, "TEXTS: THE TAPE (800 bytes at most).");
        TypedTables x = tape(new TypedTables(), "\n".repeat(796) + "a\n12");
        due("bytes", x.look(8), 800);
        due("all of it is read", x.read(0), 1);
        due("to its last byte", cells(x, 0), "12");
    }

    private static void linesParted() {
        term(1, "LINES are parted by 10 that are not in quotes.");
        reads("x\ny/z", "a\n\"x\ny\"\nz\n");
        reads("\n\n/z", "a\n\"\n\n\"\nz");
        reads("\"x/y\"", "a\n\"x\ny\"\n", QUOTE, 39);
        reads("x\ny!z", "a,b\n'x\ny',z\n", QUOTE, 39);
        reads("x\"\ny", "a\n\"x\"\"\ny\"\n");
    }

    private static void linesPassedOver() {
        term(1, "A LINE without bytes, or the first byte of which is COMMENT, is passed over (all to its 10).");
        reads("1/2", "\n\na\n\n1\n\n\n2\n\n");
        for (int comment : new int[] {35, 37, 42}) {
            String c = "" + (char) comment;
            reads("1/2", c + "\na\n" + c + "1\n1\n" + c + c + "\n2\n" + c, COMMENT, comment);
            reads(c + "1", "a\n" + c + "1\n");
            reads(c + "1", "a\n" + c + "1\n", COMMENT, comment == 35 ? 37 : 35);
            reads("1" + c + "/ " + c, "a\n1" + c + "\n " + c + "\n", COMMENT, comment);
            reads(c, "a\n\"" + c + "\"\n", COMMENT, comment);
            reads(c, "a\n " + c + "\n", COMMENT, comment, TRIM, 1);
            reads("1", "a\n" + c + "\"x\n1\n", COMMENT, comment);
            reads("x\n" + c + "y", "a\n\"x\n" + c + "y\"\n", COMMENT, comment);
        }
        reads("x!#", "a,b\nx,#\n", COMMENT, 35);
        reads(" ", "a\n \n");
        reads("", "a\n \n", TRIM, 1);
        due("blanks are a line", made("a\n \n").table(0, 1), 1);
    }

    private static void fieldsParted() {
        term(1, "Each other LINE has FIELDS, parted by SEPARATOR.");
        reads("1!2", "a,b\n1,2\n");
        reads("1,2;3|4!5", "a\tb\n1,2;3|4\t5\n", SEPARATOR, 9);
        reads("1,2|3!4", "a;b\n1,2|3;4\n", SEPARATOR, 59);
        reads("1,2;3!4", "a|b\n1,2;3|4\n", SEPARATOR, 124);
        reads("1;2|3!4", "a,b\n1;2|3,4\n");
        reads("!!", "a,b,c\n,,\n");
        reads("!1!", "a,b,c\n,1,");
        reads("1!2!3!4!5!6!7!8", NAMES + "\n1,2,3,4,5,6,7,8\n");
    }

    private static void fieldsInQuotes() {
        term(1, "A FIELD that begins with QUOTE: what follows is as it is up to a QUOTE that is not followed by another one"
            + " (two are one QUOTE);");
        reads("", "a\n\"\"\n");
        due("one row without bytes", made("a\n\"\"\n").table(0, 1), 1);
        reads("\"", "a\n\"\"\"\"\n");
        reads("\"\"", "a\n\"\"\"\"\"\"\n");
        reads("x\"y", "a\n\"x\"\"y\"\n");
        reads("\"x!\"", "a,b\n\"\"\"x\",\"\"\"\"\n");
        reads(" , ' # !2", "a,b\n\" , ' # \",2\n", COMMENT, 35);
        reads(" x ", "a\n\" x \"\n", TRIM, 1);
        reads("'!\"", "a,b\n'''',\"\n", QUOTE, 39);
        reads("\"".repeat(20), "a\n\"" + "\"\"".repeat(20) + "\"\n");
    }

    private static void behindQuotes() {
        term(1, "then SEPARATOR, 10 or the end must come.");
        reads("x!y", "a,b\n\"x\",\"y\"\n");
        reads("x!y", "a,b\n\"x\",\"y\"");
        reads("x!y", "a\tb\n\"x\"\t\"y\"\n", SEPARATOR, 9);
        faults("3 7 1 3 0", "a,b\n\"x\" ,y\n");
        faults("3 7 1 3 0", "a,b\n\"x\";y\n");
        faults("3 7 1 3 0", "a;b\n\"x\",y\n", SEPARATOR, 59);
        faults("3 7 1 3 0", "a;b\n'x'\";y\n", SEPARATOR, 59, QUOTE, 39);
    }

    private static void plainFields() {
        term(1, "Each other FIELD: bytes up to SEPARATOR, 10 or the end.");
        reads(" x ! y ", "a,b\n x , y \n");
        reads("!", "a,b\n,\n");
        reads("x!y", "a,b\nx,y");
        reads("it's!'", "a,b\nit's,'\n");
        term(1, "What stands in a FIELD is its CELL.");
        reads("x!y z!", "a,b,c\nx,\"y z\",\n");
    }

    private static void trimmed() {
        term(1, "With TRIM blanks (32) at the begin and end of a FIELD that is not in quotes don't count,");
        reads("1!2", "a,b\n 1,2 \n", TRIM, 1);
        reads("x  y!", "a,b\n  x  y   ,   \n", TRIM, 1);
        reads(TWENTY, "a\n" + " ".repeat(30) + TWENTY + " ".repeat(30) + "\n", TRIM, 1);
        reads(" 1!2 ", "a,b\n 1,2 \n", TRIM, 0);
        columnsOf("a b", " a , b \n", TRIM, 1);
        faults("7 0 0 0 0", " a , b \n", TRIM, 0);
        term(1, "nor do blanks ahead of the first QUOTE and behind the last one.");
        reads(" x !y", "a,b\n  \" x \"  ,   \"y\"\n", TRIM, 1);
        reads("x", "a\n\"x\"   ", TRIM, 1);
        reads("", "a\n  \"\"  \n", TRIM, 1);
        reads("\" ", "a\n \"\"\" \" \n", TRIM, 1);
        faults("2 3 1 1 0", "a\n \"x\"\n", TRIM, 0);
        faults("3 5 1 3 0", "a\n\"x\" \n", TRIM, 0);
    }

    private static void firstLine() {
        term(1, "READ: of the LINES that are not passed over the first one tells COLUMNS: with HEADER their NAMES (it is no"
            + " ROW then),");
        columnsOf("x y", "\n#a,b,c\nx,y\n1,2\n", COMMENT, 35);
        reads("1!2", "\n#a,b,c\nx,y\n1,2\n", COMMENT, 35);
        reads("", "x,y");
        due("no row", made("x,y").table(0, 1), 0);
        term(1, "else as many as it has FIELDS, c0, c1, .. . Each other one is a ROW.");
        columnsOf("c0 c1", "\n#a,b,c\nx,y\n1,2\n", COMMENT, 35, HEADER, 0);
        reads("x!y/1!2", "\n#a,b,c\nx,y\n1,2\n", COMMENT, 35, HEADER, 0);
        columnsOf("c0 c1 c2 c3 c4 c5 c6 c7", ",,,,,,,", HEADER, 0);
        columnsOf("c0", "x", HEADER, 0);
        reads("x y!x y!", "x y,x y,\n", HEADER, 0);
    }

    private static void ragged() {
        term(1, "RAGGED: a LINE with fewer FIELDS: with bit 1 CELLS without bytes come behind;");
        for (int bits : new int[] {1, 3}) {
            reads("1!2!!/1!!!/1!2!3!4", "a,b,c,d\n1,2\n1\n1,2,3,4\n", RAGGED, bits);
            reads("1!2/3!", "1,2\n3\n", RAGGED, bits, HEADER, 0);
        }
        faults("8 11 1 3 2", "a,b,c,d\n1,2\n", RAGGED, 2);
        faults("8 11 1 3 2", "a,b,c,d\n1,2\n", RAGGED, 0);
        term(1, "one with more: with bit 2 those behind don't count (but are read).");
        for (int bits : new int[] {2, 3}) {
            reads("1/2", "a\n1,2,3,4,5,6,7,8\n2,3\n", RAGGED, bits);
            faults("1 4 1 2 1", "a\n1,\t\n", RAGGED, bits);
            faults("2 5 1 3 1", "a\n1,x\"\n", RAGGED, bits);
            faults("3 7 1 5 1", "a\n1,\"x\"y\n", RAGGED, bits);
            faults("4 6 1 4 1", "a\n1,\"x", RAGGED, bits);
            faults("5 24 1 22 1", "a\n1," + TWENTY + "1\n", RAGGED, bits);
            faults("6 17 1 15 -1", "a\n1,2,3,4,5,6,7,8,9\n", RAGGED, bits);
        }
        faults("8 3 1 1 2", "a\n1,2\n", RAGGED, 1);
        faults("8 3 1 1 2", "a\n1,2\n", RAGGED, 0);
    }

    private static void linesOneBehindTheOther() {
        term(1, "FAULTS: LINES are read one behind the other;");
        faults("7 0 0 0 0", "a b\n\t\n");
        faults("8 5 1 1 1", "a,b\n1\n\t,\"\n");
        faults("8 4 1 1 1", "1,\n1\n\t\n", HEADER, 0);
        faults("2 3 1 1 0", "a\n1\"\na\t");
        faults("8 3 1 1 2", "a\n1,2\n" + "1\n".repeat(41));
    }

    private static void firstByPlace() {
        term(1, "of each the first of 1 to 6 by its place,");
        faults("1 2 1 0 0", "a\n\tx\"\n");
        faults("2 3 1 1 0", "a\nx\"\t\n");
        faults("3 5 1 3 0", "a\n\"x\"y\t" + TWENTY + "1\n");
        faults("1 4 1 2 0", "a\n\"x\t");
        faults("5 23 1 21 0", "a\n\"" + TWENTY + "1");
        faults("5 22 1 20 0", "a\n" + TWENTY + "1\t\"\n");
        faults("6 17 1 15 -1", "a\n1,2,3,4,5,6,7,8,\t\n");
        faults("2 17 1 15 7", "a\n1,2,3,4,5,6,7,8\",9\n");
    }

    private static void leastOfLikePlaces() {
        term(1, "of like places the least,");
        faults("1 22 1 20 0", "a\n" + TWENTY + "\t\n");
        faults("2 22 1 20 0", "a\n" + TWENTY + "\"\n");
        faults("1 23 1 21 0", "a\n\"" + TWENTY + "\t\"\n");
        faults("1 5 1 3 0", "a\n\"x\"\t\n");
        faults("1 82 41 0 0", "a\n" + FORTY + "\t\n");
        faults("1 24 1 22 0", "a\n" + TWENTY + "  \t\n", TRIM, 1);
        faults("2 24 1 22 0", "a\n" + TWENTY + "  \"\n", TRIM, 1);
    }

    private static void sevenAndEightLast() {
        term(1, "else 7, 8:");
        faults("2 6 0 6 2", "a a,,x\"\n");
        faults("6 14 0 14 -1", "a,a,,d,e,f,g,h,i\n");
        faults("2 6 1 2 0", "a,b\nxy\"\n");
        faults("1 10 1 6 3", "a,b\n1,2,3,\t\n");
        faults("6 19 1 15 -1", "a,b\n1,2,3,4,5,6,7,8,9\n");
        faults("4 5 1 1 0", "a,b\n\"");
    }

    private static void fault1() {
        term(1, "1 a byte that can't be (not 32 .. 126, 10, nor SEPARATOR; 9 in quotes, too);");
        for (int b = 0; b < 256; b++) {
            if (b == 10 || (b >= 32 && b <= 126)) {
                continue;
            }
            String s = "" + (char) b;
            faults("1 0 0 0 0", s + "a\n");
            faults("1 2 1 0 0", "a\n" + s + "\n");
            faults("1 3 1 1 0", "a\n1" + s);
            faults("1 3 1 1 0", "a\n\"" + s + "\"\n");
            faults("1 5 1 3 0", "a\n\"1\"" + s);
            if (b != 9) {
                faults("1 3 1 1 0", "a\n1" + s, SEPARATOR, 9);
            }
        }
        for (int b = 32; b < 127; b++) {
            String s = "" + (char) b;
            reads("1" + s, "a\n\"1" + (b == 34 ? "\"\"" : s) + "\"\n");
            if (b != 34 && b != 44) {
                reads("1" + s, "a\n1" + s + "\n");
            }
        }
        reads("1!2", "a\tb\n1\t2\n", SEPARATOR, 9);
        reads("1!2", "a\tb\n\"1\"\t2\n", SEPARATOR, 9);
        faults("1 4 1 0 0", "a,b\n\t,\n");
        faults("1 6 1 2 0", "a\tb\n\"1\t\"\t2\n", SEPARATOR, 9);
    }

    private static void fault2() {
        term(1, "2 a QUOTE in a FIELD that does not begin with one;");
        faults("2 3 1 1 0", "a\nx\"\n");
        faults("2 5 1 1 0", "a,b\nx\"\"y\",\n");
        faults("2 3 1 1 0", "a\nx'\n", QUOTE, 39);
        reads("x\"", "a\nx\"\n", QUOTE, 39);
        reads("x'", "a\nx'\n");
        faults("2 4 1 2 0", "a\nx \"y\"\n", TRIM, 1);
        faults("2 1 0 1 0", "a\"\n");
    }

    private static void fault3() {
        term(1, "3 what can't come behind the last QUOTE;");
        for (int b = 32; b < 127; b++) {
            String s = "" + (char) b;
            if (b == 34) {
                faults("4 7 2 0 0", "a\n\"1\"" + s + "\n");
            } else if (b == 44) {
                faults("8 5 1 3 2", "a\n\"1\"" + s + "\n");
            } else {
                faults("3 5 1 3 0", "a\n\"1\"" + s + "\n");
            }
            if (b != 32 && b != 44) {
                faults("3 7 1 5 0", "a\n\"1\"  " + s + "\n", TRIM, 1);
            }
        }
        faults("3 4 1 2 0", "a\n\"\"x\n");
        faults("3 5 1 3 0", "a\n'x'\"\n", QUOTE, 39);
    }

    private static void fault4() {
        term(1, "4 the end, as it is in quotes;");
        faults("4 1 0 1 0", "\"");
        faults("4 3 1 1 0", "a\n\"");
        faults("4 4 1 2 0", "a\n\"x");
        faults("4 6 1 4 0", "a\n\"x\"\"");
        faults("4 6 3 0 0", "a\n\"x\n\n");
        faults("4 23 1 21 0", "a\n\"" + TWENTY);
        faults("4 800 798 1 0", "\n".repeat(797) + "a\n\"");
        faults("4 5 1 3 0", "a\n  \"", TRIM, 1);
    }

    private static void fault5() {
        term(1, "5 a byte by which a CELL would have more than 20");
        reads(TWENTY, "a\n" + TWENTY + "\n");
        faults("5 22 1 20 0", "a\n" + TWENTY + "1\n");
        faults("5 22 1 20 0", "a\n" + TWENTY + " \n");
        reads(TWENTY, "a\n\"" + TWENTY + "\"\n");
        faults("5 23 1 21 0", "a\n\"" + TWENTY + "1\"\n");
        faults("5 23 1 21 0", "a\n\"" + TWENTY + "\n\"\n");
        faults("5 23 1 21 0", "a\n\"" + TWENTY + ",\"\n");
        faults("5 20 0 20 0", TWENTY + "x\n");
        faults("7 0 0 0 0", TWENTY + "\n");
        term(1, "(of two QUOTES: the second one;");
        reads(TWENTY.substring(1) + "\"", "a\n\"" + TWENTY.substring(1) + "\"\"\"\n");
        faults("5 24 1 22 0", "a\n\"" + TWENTY + "\"\"\"\n");
        faults("5 44 1 42 0", "a\n\"" + "\"\"".repeat(20) + "\"\"\"\n");
    }

    private static void fault5Trimmed() {
        term(1, "with TRIM blanks of a FIELD that is not in quotes count as soon as another byte comes: at that);");
        String eighteen = TWENTY.substring(2);
        reads(eighteen, "a\n" + eighteen + "   \n", TRIM, 1);
        reads(eighteen + " x", "a\n" + eighteen + " x\n", TRIM, 1);
        faults("5 22 1 20 0", "a\n" + eighteen + "  x\n", TRIM, 1);
        faults("5 25 1 23 0", "a\n" + TWENTY + "   x\n", TRIM, 1);
        faults("5 23 1 21 0", "a\nx" + " ".repeat(20) + "y\n", TRIM, 1);
        reads("x" + " ".repeat(18) + "y", "a\nx" + " ".repeat(18) + "y\n", TRIM, 1);
        faults("5 27 1 25 0", "a\n" + " ".repeat(5) + TWENTY + "x\n", TRIM, 1);
        faults("5 22 1 20 0", "a\n" + eighteen + "   x\n", TRIM, 0);
        faults("5 23 1 21 0", "a\n\"" + TWENTY + " \"\n", TRIM, 1);
    }

    private static void fault6() {
        term(1, "6 the SEPARATOR behind the 8th FIELD (whatever RAGGED is);");
        for (int bits = 0; bits < 4; bits++) {
            faults("6 15 0 15 -1", NAMES + ",\n", RAGGED, bits);
            faults("6 15 0 15 -1", "1,2,3,4,5,6,7,8,9\n", RAGGED, bits, HEADER, 0);
            faults("6 31 1 15 -1", NAMES + "\n1,2,3,4,5,6,7,8,9\n", RAGGED, bits);
            faults("6 17 1 15 -1", "a\n1,2,3,4,5,6,7,8,9\n", RAGGED, bits);
            reads("1!2!3!4!5!6!7!8", NAMES + "\n1,2,3,4,5,6,7,8\n", RAGGED, bits);
        }
        faults("6 33 1 17 -1", NAMES + "\n1,2,3,4,5,6,7,\"8\",9\n");
        term(1, "the first byte of the LINE that would be the 41st ROW;");
        due("40 rows", made("a\n" + FORTY).table(0, 1), 40);
        due("40 rows, then none", made("a\n" + FORTY + "\n\n").table(0, 1), 40);
        faults("6 82 41 0 -1", "a\n" + FORTY + "2\n");
        faults("6 82 41 0 -1", "a\n" + FORTY + "2\"\n");
        faults("6 82 41 0 -1", "a\n" + FORTY + ",,,,,,,,\n");
        faults("6 82 41 0 -1", "a\n" + FORTY + "\"");
        faults("6 82 41 0 -1", "a\n" + FORTY + ",\t\n");
        faults("6 80 40 0 -1", FORTY + "2\n", HEADER, 0);
        faults("6 82 41 0 -1", "a\n" + FORTY + "\t\n", SEPARATOR, 9);
        faults("6 86 43 0 -1", "a\n" + FORTY + "#x\n\n2\n", COMMENT, 35);
        TypedTables x = with(HEADER, 0);
        due("40 rows without HEADER", read(x, 0, FORTY), 40);
    }

    private static void fault7() {
        term(1, "7 a NAME that can't be, or was told already (at its FIELD's first byte, the first such FIELD);");
        faults("7 2 0 2 1", "a,abcdefghijklm,b\n");
        faults("7 2 0 2 1", "a,,b\n");
        faults("7 2 0 2 1", "a,");
        faults("7 2 0 2 1", "a,b c,d e\n");
        faults("7 4 0 4 2", "a,b,a,b\n");
        faults("7 2 0 2 1", "a,\"b\n\"\n");
        faults("7 4 0 4 1", "\"a\",\"a\"\n");
        faults("7 4 0 4 1", " a ,  a\n", TRIM, 1);
        faults("7 5 3 0 0", "\n\n#a\n\"\",b\n", COMMENT, 35);
        faults("7 14 0 14 7", "a,b,c,d,e,f,g,a\n");
        columnsOf("a b", "\"a\",b\n");
    }

    private static void fault8() {
        term(1, "8 a LINE with fewer FIELDS (at its end),");
        faults("8 6 1 2 1", "a,b\n12\n");
        faults("8 6 1 2 1", "a,b\n12");
        faults("8 11 3 1 2", "a,b,c\n,\"\n\n\"\n");
        faults("8 9 1 5 1", "a,b\n 12  \n", TRIM, 1);
        faults("8 5 1 1 1", "1,2\n1", HEADER, 0);
        term(1, "with more (at the SEPARATOR ahead of the first one too many);");
        faults("8 7 1 3 3", "a,b\n1,2,3\n");
        faults("8 7 1 3 4", "a,b\n1,2,3,4\n");
        faults("8 3 1 1 8", "a\n1,2,3,4,5,6,7,8\n");
        faults("8 9 1 5 3", "a,b\n1, 2 ,3\n", TRIM, 1);
        faults("8 10 2 3 3", "a,b\n\",\n\",2,\n");
    }

    private static void fault9() {
        term(1, "9 the end, if no LINE told COLUMNS.");
        faults("9 0 0 0 -1", "");
        faults("9 3 3 0 -1", "\n\n\n");
        faults("9 6 1 3 -1", "#a\n#bc", COMMENT, 35);
        faults("9 0 0 0 -1", "", HEADER, 0);
        faults("9 800 0 800 -1", "#".repeat(800), COMMENT, 35);
        reads("", "a");
    }

    private static void passedOverNotLookedAt() {
        term(1, "What is passed over is not looked at.");
        String all = "#" + (char) 0 + (char) 255 + "\t\"" + TWENTY + TWENTY + ",,,,,,,,,,\n";
        reads("1", all + "a\n" + all + "1\n" + all, COMMENT, 35);
        due("a comment behind 40 rows", read(with(COMMENT, 35), 0, "a\n" + FORTY + all), 40);
        reads("1", "a\n1\n#\"", COMMENT, 35);
    }

    private static void causes() {
        String[] bad = {"\t", "x\"", "\"x\"y", "\"", TWENTY + "1"};
        for (int kind = 1; kind <= 5; kind++) {
            term(1, "CAUSE of 1 to 5: which FIELD of its LINE (from 0);");
            for (int field = 0; field < 8; field++) {
                TypedTables x = with(RAGGED, 3);
                due("read", read(x, 0, "a\n" + ",".repeat(field) + bad[kind - 1]), -1);
                due("fault", x.fault(0), kind);
                due("cause", x.fault(4), field);
            }
        }
        for (int n = 0; n < 8; n++) {
            term(1, "of 7: that;");
            due("cause", afterRead("a,b,c,d,e,f,g,".substring(0, 2 * n) + (n == 7 ? "-" : "-,-")).fault(4), n);
            term(1, "of 8: how many FIELDS it has;");
            String line = "1" + ",".repeat(n) + "\n";
            due("cause", afterRead((n == 3 ? "a,b" : "a,b,c,d") + "\n" + line).fault(4), n + 1);
        }
        term(1, "else NONE.");
        due("cause of 6", afterRead(NAMES + ",i").fault(4), -1);
        due("cause of 6", afterRead("a\n" + FORTY + "1").fault(4), -1);
        due("cause of 9", afterRead("").fault(4), -1);
    }

    /** An object that has READ a text. */
    private static TypedTables afterRead(String text) {
        TypedTables x = new TypedTables();
        read(x, 0, text);
        return x;
    }

    private static void places() {
        term(1, "LINE of a place: how many 10 are ahead of it; COLUMN: bytes behind the latest of these.");
        faults("1 0 0 0 0", "\t");
        faults("1 1 0 1 0", "a\t");
        faults("1 2 1 0 0", "a\n\t");
        faults("1 8 4 2 1", "a\n\n\"\n\n\",\t\n");
        faults("1 11 3 3 0", "\n#\nabcd\n123\t", COMMENT, 35);
        faults("8 3 1 1 2", "a\n1,\n");
        faults("9 2 2 0 -1", "\n\n");
    }

    // ---- promises 1 to 6

    private static void newObject() {
        promise(1, "No TABLES.");
        TypedTables x = new TypedTables();
        due("tables", x.look(6), 0);
        for (int t = -1; t < 4; t++) {
            due("table " + t, x.table(t, 0), -1);
            due("view " + t, x.view(t, -1), -1);
        }
        due("acts", x.look(7), 0);
        due("tape", x.look(8), 0);
        due("cells", x.look(9), 0);
        due("nothing written", x.sign(0), -1);
        due("no image", x.image(false), false);
    }

    private static void dialectCall() {
        promise(2, "THE DIALECT, what 0 .. 5: true; false if it can't be.");
        int[] can = {59, 39, 0, 1, 3, 42};
        for (int what = 0; what < 6; what++) {
            TypedTables x = new TypedTables();
            due("dialect", x.dialect(what, can[what]), true);
            due("it is so", x.look(what), can[what]);
            due("once more", x.dialect(what, can[what]), true);
            due("can't be", x.dialect(what, 77), false);
            due("it stays", x.look(what), can[what]);
        }
        for (int what : new int[] {-1, 6, -2, Integer.MIN_VALUE, Integer.MAX_VALUE}) {
            for (int v : new int[] {0, 1, 34, 44}) {
                due("dialect(" + what + ", " + v + ")", new TypedTables().dialect(what, v), false);
            }
        }
    }

    private static void feed() {
        promise(3, "Twenty bytes come behind THE TAPE, of each number the highest first: how many it has;");
        TypedTables x = new TypedTables();
        due("feed", x.feed(0x610a3132, 0x33343536, 0x37383930, 0x61626364, 0x65666768), 20);
        due("feed", x.feed(0x69003132, 0, 0, 0, 0), 40);
        due("end", x.end(21), true);
        due("feed", x.feed(0x0a787980, 0, 0, 0, 0), 41);
        due("end", x.end(24), true);
        due("read", x.read(0), 2);
        due("cells", cells(x, 0), "1234567890abcdefghi/xy");
        TypedTables y = new TypedTables();
        due("a number below 0", y.feed(0x610a80ff, -1, -1, -1, -1), 20);
        due("read", y.read(0), -1);
        due("its third byte", fault(y), "1 2 1 0 0");
        promise(3, "NONE, and none come, if it would have more than 800.");
        for (int had = 779; had <= 800; had++) {
            TypedTables z = tape(new TypedTables(), "\n".repeat(had - 3) + "a\n1");
            due("feed behind " + had, z.feed(0x32323232, 0x0a0a0a0a, 0x0a0a0a0a, 0x0a0a0a0a, 0x0a0a0a0a), had <= 780 ? had + 20 : -1);
            due("tape", z.look(8), had <= 780 ? had + 20 : had);
            due("read", z.read(0), 1);
            due("cells", cells(z, 0), had <= 780 ? "12222" : "1");
        }
    }

    private static void end() {
        promise(4, "THE TAPE has its first n bytes alone: true;");
        for (int n : new int[] {0, 1, 19, 20}) {
            TypedTables x = new TypedTables();
            x.feed(0, 0, 0, 0, 0);
            due("end(" + n + ")", x.end(n), true);
            due("tape", x.look(8), n);
            due("once more", x.end(n), true);
        }
        TypedTables x = tape(new TypedTables(), "a\n12345");
        due("end", x.end(4), true);
        tape(x, "\n9");
        due("read", x.read(0), 2);
        due("cells", cells(x, 0), "12/9");
        for (String behind : new String[] {"\"", "\"\"", " ", "  ", ",", "3", "\n", "\t", "#"}) {
            alone("1!2", "a,b\n1,2", behind);
            alone("1!", "a,b\n1,", behind);
            alone("1!2", "a,b\n1,\"2\"", behind);
            alone("1!2", "a,b\n1,2\n", behind);
            shortAlone("8 8 1 2 2", "a,b,c\n1,", behind);
            shortAlone("8 9 1 3 1", "a,b,c\n\"1\"", behind);
        }
        promise(4, "false if it has not so many, or n is below 0.");
        TypedTables y = tape(new TypedTables(), "a\n12345");
        for (int n : new int[] {8, 800, 801, -1, Integer.MIN_VALUE, Integer.MAX_VALUE}) {
            due("end(" + n + ")", y.end(n), false);
            due("tape", y.look(8), 7);
        }
        due("an empty tape", new TypedTables().end(1), false);
        due("an empty tape", new TypedTables().end(0), true);
    }

    /** What was behind the end of the tape is not READ, with TRIM or without. */
    private static void alone(String want, String text, String behind) {
        for (int trim = 0; trim < 2; trim++) {
            TypedTables x = with(TRIM, trim, COMMENT, 35);
            tape(x, text + behind);
            due("end", x.end(text.length()), true);
            due("read <" + text + "> without <" + behind + ">", x.read(0), 1);
            due("cells of <" + text + "> without <" + behind + ">", cells(x, 0), want);
        }
    }

    /** Nor does the end of a LINE that is too short come later by it. */
    private static void shortAlone(String want, String text, String behind) {
        for (int trim = 0; trim < 2; trim++) {
            TypedTables x = with(TRIM, trim, COMMENT, 35);
            tape(x, text + behind);
            due("end", x.end(text.length()), true);
            due("read <" + text + "> without <" + behind + ">", x.read(0), -1);
            due("fault of <" + text + "> without <" + behind + ">", fault(x), want);
        }
    }

    private static void read() {
        promise(5, "THE TAPE (empty then, here and below) is READ as a TABLE: how many ROWS;");
        TypedTables x = new TypedTables();
        due("without rows", read(x, 0, "a,b"), 0);
        due("tape", x.look(8), 0);
        due("40 rows", read(x, 0, "a\n" + FORTY), 40);
        due("tape", x.look(8), 0);
        due("what it was is gone", x.table(0, 0), 1);
        promise(5, "NONE if there is a FAULT,");
        due("a fault", read(x, 0, "b\n\""), -1);
        due("tape", x.look(8), 0);
        due("the table is as it was", x.table(0, 1), 40);
        due("no act", x.look(7), 2);
        promise(5, "or no such TABLE (then it is no reading).");
        for (int t : new int[] {-1, 3, Integer.MIN_VALUE, Integer.MAX_VALUE}) {
            due("no such table", read(x, t, "b\n1\n"), -1);
            due("tape", x.look(8), 0);
            due("the fault is as it was", fault(x), "4 3 1 1 0");
            due("no such table", read(x, t, "\""), -1);
            due("readings with a fault", x.look(10), 1);
        }
    }

    private static void fault() {
        promise(6, "Of the latest reading (read(), row() of a TABLE there is) what 0 FAULT (0 without), 1 its place, 2 LINE,"
            + " 3 COLUMN, 4 CAUSE (NONE each without).");
        TypedTables x = new TypedTables();
        due("no reading yet", fault(x), "0 -1 -1 -1 -1");
        read(x, 0, "a\nb,x\"\n");
        due("read", fault(x), "2 5 1 3 1");
        due("row of no table", row(x, 0, "1\n2"), -1);
        due("it is no reading", fault(x), "2 5 1 3 1");
        read(x, 0, "a\n1\n");
        due("without", fault(x), "0 -1 -1 -1 -1");
        row(x, 0, "\n1,2");
        due("row", fault(x), "8 2 1 1 2");
        due("row of no table", row(x, 1, "1"), -1);
        due("it is no reading", fault(x), "8 2 1 1 2");
        put(x, 0, 0, 0, "\t");
        due("put is no reading", fault(x), "8 2 1 1 2");
        row(x, 0, "2");
        due("without", fault(x), "0 -1 -1 -1 -1");
        promise(6, "NONE for another what.");
        read(x, 0, "\t");
        for (int what : new int[] {-1, 5, -2, Integer.MIN_VALUE, Integer.MAX_VALUE}) {
            due("fault(" + what + ")", x.fault(what), -1);
        }
    }

    // ---- promise 8

    private static void row() {
        promise(8, "THE TAPE, READ as one LINE that is a ROW (HEADER aside; RAGGED as told), comes behind the others: how"
            + " many ROWS;");
        TypedTables x = made("a,b\n");
        due("the first", row(x, 0, "1,2\n"), 1);
        due("the second, without 10", row(x, 0, "3,\"4\n\""), 2);
        due("tape", x.look(8), 0);
        due("cells", cells(x, 0), "1!2/3!4\n");
        for (int header = 0; header < 2; header++) {
            x.dialect(HEADER, header);
            due("HEADER aside", row(x, 0, "a b,a b"), 3 + header);
        }
        x.dialect(COMMENT, 37);
        due("lines passed over", row(x, 0, "\n%\"\n5,6\n\n%7,8\n"), 5);
        due("short", row(x, 0, "7"), -1);
        due("long", row(x, 0, "7,8,9"), -1);
        x.dialect(RAGGED, 1);
        due("short", row(x, 0, "7"), 6);
        due("long", row(x, 0, "7,8,9"), -1);
        x.dialect(RAGGED, 2);
        due("short", row(x, 0, "7"), -1);
        due("long", row(x, 0, "7,8,9"), 7);
        due("cells", cells(x, 0), "1!2/3!4\n/a b!a b/a b!a b/5!6/7!/7!8");
        due("names", names(x, 0), "a b");
    }

    /** A ROW that has a FAULT: the TABLE stays. */
    private static void rowFaults(TypedTables x, String text, String want) {
        int rows = x.table(0, 1);
        int faults = x.look(10);
        due("row <" + text + ">", row(x, 0, text), -1);
        due("fault of <" + text + ">", fault(x), want);
        due("rows", x.table(0, 1), rows);
        due("faults", x.look(10), faults + 1);
        due("tape", x.look(8), 0);
    }

    private static void rowFaults() {
        promise(8, "NONE if there is a FAULT");
        TypedTables x = made("a,b\n1,2\n");
        rowFaults(x, "\t", "1 0 0 0 0");
        rowFaults(x, "1,x\"", "2 3 0 3 1");
        rowFaults(x, "\"1\"x", "3 3 0 3 0");
        rowFaults(x, "1,\"", "4 3 0 3 1");
        rowFaults(x, "1," + TWENTY + "1", "5 22 0 22 1");
        rowFaults(x, "1,2,3,4,5,6,7,8,9", "6 15 0 15 -1");
        rowFaults(x, "1", "8 1 0 1 1");
        rowFaults(x, "1,2,3", "8 3 0 3 3");
        promise(8, "(6 at place 0, ahead of all else: there are 40;");
        TypedTables y = made("a\n" + FORTY.substring(2));
        due("the 40th", row(y, 0, "1"), 40);
        rowFaults(y, "1", "6 0 0 0 -1");
        rowFaults(y, "\t", "6 0 0 0 -1");
        rowFaults(y, "", "6 0 0 0 -1");
        rowFaults(y, "\n\n\"", "6 0 0 0 -1");
        due("out", y.out(0, 0), 39);
        due("the 40th again", row(y, 0, "1"), 40);
        promise(8, "9: no LINE;");
        rowFaults(x, "", "9 0 0 0 -1");
        rowFaults(x, "\n\n", "9 2 2 0 -1");
        x.dialect(COMMENT, 35);
        rowFaults(x, "\n#1,2", "9 5 1 4 -1");
        x.dialect(RAGGED, 1);
        rowFaults(x, "\n", "9 1 1 0 -1");
        promise(8, "6 at the first byte of a second LINE),");
        rowFaults(x, "1,2\n3,4\n", "6 4 1 0 -1");
        rowFaults(x, "1,2\n\n#\n3\"", "6 7 3 0 -1");
        rowFaults(x, "1,2\n,,,,,,,,", "6 4 1 0 -1");
        rowFaults(x, "1,2,3\n3,4\n", "8 3 0 3 3");
        rowFaults(x, "1,2\n\t", "1 4 1 0 0");
        x.dialect(SEPARATOR, 9);
        rowFaults(x, "1\t2\n\t", "6 4 1 0 -1");
    }

    private static void rowRefused() {
        promise(8, "a TOLD TYPE does not HOLD a CELL (no FAULT then),");
        TypedTables x = made("a,b\n1,x\n");
        due("type", x.type(0, 0, 2), true);
        read(x, 1, "\t");
        due("not held", row(x, 0, "1.5,x"), -1);
        due("no fault", fault(x), "0 -1 -1 -1 -1");
        due("readings with a fault", x.look(10), 1);
        due("tape", x.look(8), 0);
        due("rows", x.table(0, 1), 1);
        due("acts", x.look(7), 2);
        due("held", row(x, 0, "2,yes"), 2);
        due("no bytes are held", row(x, 0, ",yes"), 3);
        due("the last column, too", x.type(0, 1, 5), true);
        due("all of a second one", row(x, 0, "3,9"), 4);
        promise(8, "or there is no such TABLE.");
        for (int t : new int[] {1, 2, 3, -1, Integer.MIN_VALUE, Integer.MAX_VALUE}) {
            due("row of " + t, row(x, t, "1,2"), -1);
            due("tape", x.look(8), 0);
        }
        due("tables", x.look(6), 1);
    }
}
