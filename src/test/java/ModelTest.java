import java.util.Random;

/** Long runs of calls by chance (the same each time), each answer compared with the model's. */
public final class ModelTest {
    private static final int RUNS = 3000;
    private static final int CALLS = 512;
    private static final String[] WORDS = {"", "", "0", "1", "2", "2", "-1", "10", "007", "-0", "1.5", "2.0", "-0.5",
        "1.50", "0.1234", "1.23456", "yes", "no", "true", "false", "2024-02-29", "2023-02-29", "1970-01-01",
        "1600-01-01", "1599-12-31", "2000-13-01", "ab", "abc", "a,b", "a;b", "it's", "a\"b", "\"", "#x", "%", " x", "x ",
        "a\nb", "12345678901234567890", "123456789", "-999999999.9999", "1234567890", "a|b", "*", "Zz", "_", "yes "};

    private final Random chance;
    private final TypedTables x = new TypedTables();
    private final Model m = new Model();
    private final StringBuilder calls = new StringBuilder();
    private boolean wrong = false;
    private int made = 0;
    private int headSort = 0;

    private ModelTest(long seed) {
        chance = new Random(seed);
    }

    public static void main(String[] args) {
        int runs = args.length > 0 ? Integer.parseInt(args[0]) : RUNS;
        int failed = 0;
        for (int seed = 0; seed < runs && failed < 5; seed++) {
            ModelTest run = new ModelTest(seed);
            run.begin(seed % 4);
            while (run.made < CALLS && !run.wrong) {
                run.step();
            }
            if (run.wrong) {
                failed++;
                System.out.println("run " + seed + ":\n" + run.calls);
            }
        }
        System.out.println(runs + " runs, " + failed + " not as due");
        if (failed != 0) {
            System.exit(1);
        }
    }

    private void same(String call, long got, long want) {
        made++;
        calls.append("  ").append(call).append(" -> ").append(got).append('\n');
        if (got != want) {
            calls.append("  due is ").append(want).append('\n');
            wrong = true;
        }
    }

    private void same(String call, boolean got, boolean want) {
        same(call, got ? 1 : 0, want ? 1 : 0);
    }

    private int below(int n) {
        return chance.nextInt(n);
    }

    /** Mostly a number from 0 on, now and then one that is beyond. */
    private int about(int n) {
        int k = below(40);
        if (k == 0) {
            return -1;
        }
        if (k == 1) {
            return n;
        }
        if (k == 2) {
            return new int[] {Integer.MIN_VALUE, Integer.MAX_VALUE, -2, 100}[below(4)];
        }
        return n <= 0 ? 0 : below(n);
    }

    /** Mostly one that is there. */
    private int aTable() {
        for (int i = 0; i < 4; i++) {
            int t = below(3);
            if (m.table(t, 0) > 0) {
                return below(30) == 0 ? about(3) : t;
            }
        }
        return about(3);
    }

    private int aColumn(int table) {
        return about(m.table(table, 0));
    }

    private int aRow(int table) {
        return about(m.table(table, 1));
    }

    // ---- texts

    private String word() {
        if (below(12) == 0) {
            return "" + (char) below(256);
        }
        if (below(30) == 0) {
            return "abcdefghijklmnopqrstuvwxyz".substring(below(8));
        }
        return WORDS[below(WORDS.length)];
    }

    private String nameWord() {
        String[] names = {"a", "b", "c", "d", "id", "key", "val", "n_", "a_", "b_", "twelve_chars", "x1", "Q", "thirteenchars"};
        return below(60) == 0 ? word() : names[below(names.length)];
    }

    /** The NAME of a COLUMN in a first LINE: mostly unlike those of the others. */
    private String headWord(int column) {
        String[][] names = {{"a", "b", "c", "d", "e", "f", "g", "h"}, {"id", "a", "b_", "x", "y", "z", "b", "twelve_chars"}};
        return below(30) == 0 ? nameWord() : names[below(30) == 0 ? 0 : headSort][Math.min(column, 7)];
    }

    private String field(String s) {
        String quote = "" + (char) m.look(1);
        boolean plain = s.indexOf(m.look(0)) < 0 && !s.contains(quote) && !s.contains("\n");
        String pad = below(6) == 0 ? " ".repeat(below(4)) : "";
        if (m.look(3) == 0 && below(8) != 0) {
            pad = "";
        }
        if (below(40) == 0) {
            return s;
        }
        if (plain && below(5) != 0) {
            return pad + s + pad;
        }
        return pad + quote + s.replace(quote, quote + quote) + quote + pad;
    }

    private String line(int width, boolean names) {
        StringBuilder text = new StringBuilder();
        int n = Math.max(1, below(40) == 0 ? below(11) : width);
        int sort = below(9);
        for (int c = 0; c < n; c++) {
            String s = names ? headWord(c) : sorted(sort, c);
            text.append(c == 0 ? "" : "" + (char) m.look(0)).append(field(s));
        }
        return text.toString();
    }

    /** Words of one TYPE for each COLUMN, most of the time, so that columns are more than TEXT. */
    private String sorted(int sort, int column) {
        String[][] kinds = {{"1", "2", "3", "-7", "", "10"}, {"1.5", "2", "2.0", "-0.5", "", "1.50"}, {"yes", "no", "true", "false", ""},
            {"2024-02-29", "1970-01-01", "", "1969-12-31"}, {"ab", "a", "b", "", "abc", "B"}};
        if (sort == 0 && below(3) == 0) {
            return word();
        }
        String[] kind = kinds[Math.floorMod(column, kinds.length)];
        return kind[below(kind.length)];
    }

    private String document() {
        int width = 1 + below(below(2) == 0 ? 3 : 8);
        StringBuilder text = new StringBuilder();
        int lines = below(10) == 0 ? below(50) : below(9);
        boolean names = m.look(2) == 1;
        headSort = below(2);
        for (int i = 0; i < lines; i++) {
            int k = below(20);
            if (k == 0) {
                text.append("\n");
            } else if (k == 1) {
                text.append((char) m.look(5)).append("so\"").append("\n");
            }
            text.append(line(width, names)).append(below(30) == 0 ? "" : "\n");
            names = false;
        }
        if (below(12) == 0 && text.length() > 0) {
            text.setCharAt(below(text.length()), (char) below(256));
        }
        if (below(12) == 0) {
            text.setLength(below(text.length() + 1));
        }
        return text.toString();
    }

    private void tape(String text) {
        String t = text;
        for (int i = 0; i < t.length(); i += 20) {
            int[] n = new int[5];
            for (int k = 0; k < 5; k++) {
                n[k] = Check.fourBytes(t, i + 4 * k);
            }
            same("feed(" + n[0] + ", " + n[1] + ", " + n[2] + ", " + n[3] + ", " + n[4] + ")",
                x.feed(n[0], n[1], n[2], n[3], n[4]), m.feed(n[0], n[1], n[2], n[3], n[4]));
        }
        int n = below(60) == 0 ? about(900) : t.length();
        same("end(" + n + ")", x.end(n), m.end(n));
    }

    private void someTape(String text) {
        if (below(40) != 0) {
            tape(text);
        }
    }

    /** Some runs begin with TABLES that are there, some with one that is large. */
    private void begin(int tables) {
        for (int t = 0; t < tables; t++) {
            StringBuilder text = new StringBuilder("k,b,c,d,e\n".substring(0, 2 * (1 + below(5)) - 1) + "\n");
            int width = (text.length()) / 2;
            int lines = below(7);
            for (int i = 0; i < lines; i++) {
                text.append(line(width, false)).append("\n");
            }
            tape(text.toString());
            same("read(" + t + ")", x.read(t), m.read(t));
        }
        if (tables == 3 && below(3) == 0) {
            large();
        }
    }

    /** A TABLE that is not all written. */
    private void large() {
        String cells = "\"\"\"\"\"\"\"\"\"\"\"\"\"\"\"\"\"\"\"\"";
        String quoted = "\"" + cells + cells + "\"";
        tape("k,b,c,d\n" + ("1," + quoted + "," + quoted + "," + quoted + "\n").repeat(5));
        same("read(0)", x.read(0), m.read(0));
        tape("k,p,q,r\n" + ("1," + "r".repeat(20) + "," + "s".repeat(20) + ",\n").repeat(8));
        same("read(1)", x.read(1), m.read(1));
        same("joined", x.joined(0, 0, 1, 0, 2), m.joined(0, 0, 1, 0, 2));
        same("write(2)", x.write(2), m.write(2));
        same("sign(5999)", x.sign(5999), m.sign(5999));
    }

    // ---- calls

    private void step() {
        int k = below(100);
        if (k < 8) {
            dialectStep();
        } else if (k < 20) {
            readStep();
        } else if (k < 42) {
            changeStep();
        } else if (k < 62) {
            viewStep();
        } else if (k < 85) {
            lookStep();
        } else {
            numberStep();
        }
        if (below(10) == 0) {
            sweep();
        }
    }

    private void dialectStep() {
        int what = about(6);
        int[] values = {44, 59, 124, 9, 34, 39, 0, 1, 2, 3, 35, 37, 42, 4, -1, 32};
        int v = values[below(values.length)];
        if (what == 2 && v == 0 && below(3) != 0) {
            v = 1;
        }
        same("dialect(" + what + ", " + v + ")", x.dialect(what, v), m.dialect(what, v));
    }

    private void readStep() {
        int t = aTable();
        someTape(document());
        same("read(" + t + ")", x.read(t), m.read(t));
        faults();
    }

    private void faults() {
        for (int what = 0; what < 5; what++) {
            same("fault(" + what + ")", x.fault(what), m.fault(what));
        }
    }

    private void changeStep() {
        int t = aTable();
        int c = aColumn(t);
        int r = aRow(t);
        switch (below(10)) {
            case 0:
            case 1:
                someTape(below(3) == 0 ? word() : sorted(1, c));
                same("put(" + t + ", " + r + ", " + c + ")", x.put(t, r, c), m.put(t, r, c));
                break;
            case 2:
            case 3:
                someTape(below(8) == 0 ? document() : line(m.table(t, 0), false));
                same("row(" + t + ")", x.row(t), m.row(t));
                faults();
                break;
            case 4:
                same("out(" + t + ", " + r + ")", x.out(t, r), m.out(t, r));
                break;
            case 5:
                someTape(nameWord());
                same("name(" + t + ", " + c + ")", x.name(t, c), m.name(t, c));
                break;
            case 6:
                if (below(3) == 0) {
                    same("away(" + t + ", " + c + ")", x.away(t, c), m.away(t, c));
                } else {
                    same("undo()", x.undo(), m.undo());
                }
                break;
            case 7:
                int type = below(3) == 0 ? m.column(t, c, 0) : about(7) - 1;
                same("type(" + t + ", " + c + ", " + type + ")", x.type(t, c, type), m.type(t, c, type));
                break;
            case 8:
                joinStep(t, c);
                break;
            default:
                boolean taken = below(2) == 0;
                same("image(" + taken + ")", x.image(taken), m.image(taken));
        }
    }

    private void joinStep(int a, int columnA) {
        int b = aTable();
        int columnB = aColumn(b);
        int c = about(3);
        same("matches(" + a + ", " + columnA + ", " + b + ", " + columnB + ")",
            x.matches(a, columnA, b, columnB), m.matches(a, columnA, b, columnB));
        same("joined(" + a + ", " + columnA + ", " + b + ", " + columnB + ", " + c + ")",
            x.joined(a, columnA, b, columnB, c), m.joined(a, columnA, b, columnB, c));
    }

    private void viewStep() {
        int t = aTable();
        int c = aColumn(t);
        switch (below(6)) {
            case 0:
            case 1:
                int how = about(8);
                someTape(below(6) == 0 ? word() : sorted(1, c));
                same("narrow(" + t + ", " + c + ", " + how + ")", x.narrow(t, c, how), m.narrow(t, c, how));
                break;
            case 2:
                boolean down = below(2) == 0;
                same("order(" + t + ", " + c + ", " + down + ")", x.order(t, c, down), m.order(t, c, down));
                break;
            case 3:
                int from = about(3);
                int n = about(41);
                same("cut(" + t + ", " + from + ", " + n + ")", x.cut(t, from, n), m.cut(t, from, n));
                break;
            case 4:
                same("unlike(" + t + ", " + c + ")", x.unlike(t, c), m.unlike(t, c));
                break;
            default:
                same("back(" + t + ")", x.back(t), m.back(t));
        }
        int i = about(m.view(t, -1));
        same("view(" + t + ", " + i + ")", x.view(t, i), m.view(t, i));
    }

    private void lookStep() {
        int t = aTable();
        int c = aColumn(t);
        int r = aRow(t);
        int what = about(7);
        int i = about(4);
        switch (below(13)) {
            case 0: same("table(" + t + ", " + what + ")", x.table(t, what), m.table(t, what)); break;
            case 1: same("column(" + t + ", " + c + ", " + what + ")", x.column(t, c, what), m.column(t, c, what)); break;
            case 2: same("nameAt(" + t + ", " + c + ", " + i + ")", x.nameAt(t, c, i), m.nameAt(t, c, i)); break;
            case 3:
                someTape(nameWord());
                same("find(" + t + ")", x.find(t), m.find(t));
                break;
            case 4:
                what = about(2);
                same("proof(" + t + ", " + c + ", " + i + ", " + what + ")", x.proof(t, c, i, what), m.proof(t, c, i, what));
                break;
            case 5: same("against(" + t + ", " + c + ", " + what + ")", x.against(t, c, what), m.against(t, c, what)); break;
            case 6:
                what = about(3);
                same("cell(" + t + ", " + r + ", " + c + ", " + what + ")", x.cell(t, r, c, what), m.cell(t, r, c, what));
                break;
            case 7: same("cellAt(" + t + ", " + r + ", " + c + ", " + i + ")", x.cellAt(t, r, c, i), m.cellAt(t, r, c, i)); break;
            case 8: same("value(" + t + ", " + r + ", " + c + ")", x.value(t, r, c), m.value(t, r, c)); break;
            case 9:
                int other = aRow(t);
                same("compare(" + t + ", " + c + ", " + r + ", " + other + ")", x.compare(t, c, r, other), m.compare(t, c, r, other));
                break;
            case 10:
                same("write(" + t + ")", x.write(t), m.write(t));
                break;
            case 11:
                i = about(200);
                same("sign(" + i + ")", x.sign(i), m.sign(i));
                break;
            default:
                what = about(11);
                same("look(" + what + ")", x.look(what), m.look(what));
        }
    }

    private void numberStep() {
        int t = aTable();
        int c = aColumn(t);
        if (below(3) != 0) {
            int what = about(7);
            same("over(" + t + ", " + c + ", " + what + ")", x.over(t, c, what), m.over(t, c, what));
        } else if (below(2) == 0) {
            int i = about(4);
            int what = about(3);
            int by = aColumn(t);
            same("group(" + t + ", " + c + ", " + i + ", " + what + ", " + by + ")",
                x.group(t, c, i, what, by), m.group(t, c, i, what, by));
        } else {
            int b = aTable();
            same("differ(" + t + ", " + b + ")", x.differ(t, b), m.differ(t, b));
        }
    }

    /** The whole state; these calls count, too. */
    private void sweep() {
        for (int what = 0; what < 11; what++) {
            same("look(" + what + ")", x.look(what), m.look(what));
        }
        int t = below(3);
        for (int i = 0; i < m.view(t, -1) && i < 8; i++) {
            int r = m.view(t, i);
            same("view(" + t + ", " + i + ")", x.view(t, i), r);
            for (int c = 0; c < m.table(t, 0); c++) {
                same("value(" + t + ", " + r + ", " + c + ")", x.value(t, r, c), m.value(t, r, c));
                same("cell(" + t + ", " + r + ", " + c + ", 2)", x.cell(t, r, c, 2), m.cell(t, r, c, 2));
            }
        }
        int n = m.write(t);
        same("write(" + t + ")", x.write(t), n);
        int from = n > 0 ? below(n) : 0;
        for (int i = from; i < n && i < from + 10; i++) {
            same("sign(" + i + ")", x.sign(i), m.sign(i));
        }
    }
}
