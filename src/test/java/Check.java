import java.io.IOException;
import java.io.UncheckedIOException;
import java.nio.file.Files;
import java.nio.file.Path;

/** What the tests share: texts put on the tape, texts read back, answers compared, the document's sentences. */
class Check {
    static final long NO_NUMBER = -100000000000000L;
    /** Numbers that are no place in anything. */
    static final int[] FAR = {-2, 100, Integer.MIN_VALUE, Integer.MAX_VALUE};

    private static final Path DOCUMENT = Path.of("../shared/DOC.md");

    private static String document = null;
    private static String sentence = "";
    private static int wrong = 0;
    private static int asked = 0;

    Check() {
    }

    /** The answers that follow belong to a sentence of the Terms' n-th part, which must have these words. */
    static void term(int n, String words) {
        belongs("==== " + n, words);
    }

    /** The answers that follow belong to a sentence of the n-th promise, which must have these words. */
    static void promise(int n, String words) {
        belongs("## Promise " + n + ":", words);
    }

    private static void belongs(String part, String words) {
        sentence = part + " \"" + words + "\": ";
        asked++;
        if (!documentPart(part).contains(words)) {
            wrong++;
            System.out.println(sentence + "does not stand in the document");
        }
    }

    /** A part of the document by how its first line begins, up to the next part, with single blanks alone. */
    static String documentPart(String begin) {
        int from = document().indexOf("\n" + begin);
        if (from < 0) {
            return "";
        }
        int term = document().indexOf("\n==== ", from + 1);
        int heading = document().indexOf("\n## ", from + 1);
        int to = term < 0 || (heading >= 0 && heading < term) ? heading : term;
        return document().substring(from, to < 0 ? document().length() : to).replaceAll("\\s+", " ");
    }

    private static String document() {
        if (document == null) {
            try {
                document = Files.readString(DOCUMENT);
            } catch (IOException e) {
                throw new UncheckedIOException(e);
            }
        }
        return document;
    }

    static void due(String call, long got, long want) {
        asked++;
        if (got != want) {
            wrong++;
            System.out.println(sentence + call + " answered " + got + ", due is " + want);
        }
    }

    static void due(String call, boolean got, boolean want) {
        due(call, got ? 1 : 0, want ? 1 : 0);
    }

    static void due(String call, String got, String want) {
        asked++;
        if (!got.equals(want)) {
            wrong++;
            System.out.println(sentence + call + " answered <" + got + ">, due is <" + want + ">");
        }
    }

    static void finish() {
        System.out.println(asked + " answers, " + wrong + " not as due");
        if (wrong != 0) {
            System.exit(1);
        }
    }

    /** A new object with some of THE DIALECT (what, v, what, v, ..). */
    static TypedTables with(int... dialect) {
        TypedTables x = new TypedTables();
        for (int i = 0; i + 1 < dialect.length; i += 2) {
            due("dialect(" + dialect[i] + ", " + dialect[i + 1] + ")", x.dialect(dialect[i], dialect[i + 1]), true);
        }
        return x;
    }

    /** A new object that has READ a text into each of the first TABLES. */
    static TypedTables made(String... texts) {
        TypedTables x = new TypedTables();
        for (int t = 0; t < texts.length; t++) {
            read(x, t, texts[t]);
        }
        return x;
    }

    /** Puts a text behind the tape; each char is a byte. */
    static TypedTables tape(TypedTables x, String text) {
        int had = x.look(8);
        int[] five = new int[5];
        for (int i = 0; i < text.length(); i += 20) {
            for (int k = 0; k < 5; k++) {
                five[k] = fourBytes(text, i + 4 * k);
            }
            x.feed(five[0], five[1], five[2], five[3], five[4]);
        }
        x.end(had + text.length());
        return x;
    }

    static int fourBytes(String text, int at) {
        int number = 0;
        for (int i = at; i < at + 4; i++) {
            number = number << 8 | (i < text.length() ? text.charAt(i) : 0);
        }
        return number;
    }

    static int read(TypedTables x, int table, String text) {
        return tape(x, text).read(table);
    }

    static int row(TypedTables x, int table, String text) {
        return tape(x, text).row(table);
    }

    static boolean put(TypedTables x, int table, int row, int column, String text) {
        return tape(x, text).put(table, row, column);
    }

    static boolean name(TypedTables x, int table, int column, String text) {
        return tape(x, text).name(table, column);
    }

    static int narrow(TypedTables x, int table, int column, int how, String text) {
        return tape(x, text).narrow(table, column, how);
    }

    /** The FAULT as "kind place line column cause". */
    static String fault(TypedTables x) {
        StringBuilder told = new StringBuilder();
        for (int what = 0; what < 5; what++) {
            told.append(what == 0 ? "" : " ").append(x.fault(what));
        }
        return told.toString();
    }

    static String cell(TypedTables x, int table, int row, int column) {
        StringBuilder bytes = new StringBuilder();
        for (int i = 0; i < x.cell(table, row, column, 1); i++) {
            bytes.append((char) x.cellAt(table, row, column, i));
        }
        return bytes.toString();
    }

    static String nameOf(TypedTables x, int table, int column) {
        StringBuilder bytes = new StringBuilder();
        for (int i = 0; i < x.column(table, column, 3); i++) {
            bytes.append((char) x.nameAt(table, column, i));
        }
        return bytes.toString();
    }

    /** All CELLS: ROWS by /, CELLS by !. */
    static String cells(TypedTables x, int table) {
        StringBuilder all = new StringBuilder();
        for (int r = 0; r < x.table(table, 1); r++) {
            all.append(r == 0 ? "" : "/");
            for (int c = 0; c < x.table(table, 0); c++) {
                all.append(c == 0 ? "" : "!").append(cell(x, table, r, c));
            }
        }
        return all.toString();
    }

    static String names(TypedTables x, int table) {
        StringBuilder all = new StringBuilder();
        for (int c = 0; c < x.table(table, 0); c++) {
            all.append(c == 0 ? "" : " ").append(nameOf(x, table, c));
        }
        return all.toString();
    }

    static String view(TypedTables x, int table) {
        StringBuilder all = new StringBuilder();
        for (int i = 0; i < x.view(table, -1); i++) {
            all.append(i == 0 ? "" : " ").append(x.view(table, i));
        }
        return all.toString();
    }

    static String written(TypedTables x, int table) {
        StringBuilder all = new StringBuilder();
        int n = x.write(table);
        for (int i = 0; i < n; i++) {
            all.append((char) x.sign(i));
        }
        return all.toString();
    }
}
