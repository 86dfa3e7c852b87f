import java.io.IOException;
import java.lang.management.ManagementFactory;
import java.lang.reflect.Constructor;
import java.lang.reflect.Field;
import java.lang.reflect.Method;
import java.lang.reflect.Modifier;
import java.nio.file.Files;
import java.nio.file.Path;
import java.util.ArrayList;
import java.util.Arrays;
import java.util.List;
import java.util.Set;
import java.util.TreeSet;
import java.util.regex.Matcher;
import java.util.regex.Pattern;

/** What of LANGUAGE.md and of the room can be looked at by a program; it runs in the project's folder. */
public final class RulesTest {
    private static final String[] FACE = {
        "boolean dialect(int,int)", "int feed(int,int,int,int,int)", "boolean end(int)", "int read(int)", "int fault(int)",
        "boolean put(int,int,int)", "int row(int)", "int out(int,int)", "boolean name(int,int)", "int away(int,int)",
        "boolean type(int,int,int)", "int joined(int,int,int,int,int)", "int undo()", "int narrow(int,int,int)",
        "int order(int,int,boolean)", "int cut(int,int,int)", "int unlike(int,int)", "int back(int)", "int view(int,int)",
        "int table(int,int)", "int column(int,int,int)", "int nameAt(int,int,int)", "int find(int)",
        "int proof(int,int,int,int)", "int against(int,int,int)", "int cell(int,int,int,int)",
        "int cellAt(int,int,int,int)", "long value(int,int,int)", "int compare(int,int,int,int)",
        "long over(int,int,int)", "long group(int,int,int,int,int)", "int matches(int,int,int,int)", "int differ(int,int)",
        "int write(int)", "int sign(int)", "boolean image(boolean)", "int look(int)"};

    public static void main(String[] args) throws IOException {
        face();
        classes();
        words(Files.readString(Path.of("src/main/java/TypedTables.java")));
        room();
        Check.finish();
    }

    private static void face() {
        Set<String> got = new TreeSet<>();
        Set<String> names = new TreeSet<>();
        for (Method m : TypedTables.class.getDeclaredMethods()) {
            if (!Modifier.isPrivate(m.getModifiers())) {
                got.add(m.getReturnType() + " " + m.getName() + Arrays.toString(m.getParameterTypes()).replace(" ", "").replace('[', '(').replace(']', ')'));
                names.add(m.getName());
            }
        }
        Check.due("face", got.toString(), new TreeSet<>(List.of(FACE)).toString());
        for (Class<?> c : all()) {
            for (Method m : c.getDeclaredMethods()) {
                if (c != TypedTables.class || Modifier.isPrivate(m.getModifiers())) {
                    Check.due(m + " bears a public name", names.contains(m.getName()), false);
                }
                Check.due(m + " takes at most seven", m.getParameterCount() <= 7, true);
            }
        }
        Constructor<?>[] made = TypedTables.class.getDeclaredConstructors();
        Check.due("constructors", made.length, 1);
        Check.due("constructor", Modifier.isPublic(made[0].getModifiers()) && made[0].getParameterCount() == 0, true);
        for (Field f : TypedTables.class.getDeclaredFields()) {
            Check.due(f + " is private", Modifier.isPrivate(f.getModifiers()), !f.getName().equals("NONE"));
        }
        Check.due("NONE", TypedTables.NONE, -1);
    }

    private static List<Class<?>> all() {
        List<Class<?>> all = new ArrayList<>(List.of(TypedTables.class.getDeclaredClasses()));
        all.add(TypedTables.class);
        return all;
    }

    private static void classes() {
        Check.due("at most twelve classes", all().size() <= 12, true);
        for (Class<?> c : all()) {
            int fields = 0;
            for (Field f : c.getDeclaredFields()) {
                boolean fixed = Modifier.isStatic(f.getModifiers());
                fields += fixed ? 0 : 1;
                Check.due(f + " is final if static", !fixed || Modifier.isFinal(f.getModifiers()), true);
            }
            Check.due(c + " has at most twenty fields", fields <= 20, true);
            Check.due(c + " is static and private", c == TypedTables.class
                || (Modifier.isStatic(c.getModifiers()) && Modifier.isPrivate(c.getModifiers())), true);
        }
    }

    private static void words(String source) {
        String code = source.replaceAll("(?s)/\\*.*?\\*/", "").replaceAll("//[^\n]*", "")
            .replace("'\"'", "0").replaceAll("\"[^\"\n]*\"", "\"\"");
        for (String word : new String[] {"throw", "throws", "try", "catch", "finally", "synchronized", "assert", "new Object",
            "protected", "volatile", "transient", "native", "double", "float", "hashCode", "toString"}) {
            Check.due("the word " + word, Pattern.compile("\\b" + word + "\\b").matcher(code).find(), false);
        }
        Check.due("lambdas", code.contains("->") || code.contains("::"), false);
        Matcher library = Pattern.compile("\\b(Arrays|System|Math|Integer|Long|String)\\.(\\w+)").matcher(code);
        Set<String> may = Set.of("Arrays.copyOf", "Arrays.copyOfRange", "System.arraycopy", "Math.min", "Math.max",
            "Integer.compare", "Long.compare");
        while (library.find()) {
            Check.due("library " + library.group(), may.contains(library.group()), true);
        }
        Matcher imports = Pattern.compile("import ([\\w.]+);").matcher(code);
        while (imports.find()) {
            Check.due("import", imports.group(1), "java.util.Arrays");
        }
        int from = 0;
        String[] lines = source.split("\n");
        for (int i = 0; i < lines.length; i++) {
            if (lines[i].matches("    (    )?(public|private|static|final|int|long|boolean|void|byte|[A-Z]).*\\) \\{")) {
                from = i;
            } else if (lines[i].matches("    (    )?\\}")) {
                Check.due("method at line " + (from + 1) + " is short", i - from <= 60, true);
            }
            Check.due("line " + (i + 1) + " is short", lines[i].length() <= 120, true);
        }
    }

    /** The dearest calls, 512 of them on one object, take far less than the room: 7.3 million elements. */
    private static void room() {
        com.sun.management.ThreadMXBean bean = (com.sun.management.ThreadMXBean) ManagementFactory.getThreadMXBean();
        long thread = Thread.currentThread().getId();
        TypedTables warm = new TypedTables();
        Check.read(warm, 0, "a\n1\n");
        long before = bean.getThreadAllocatedBytes(thread);
        TypedTables x = new TypedTables();
        x.dialect(4, 1);
        x.feed(0x612c622c, 0x632c642c, 0x0a0a0a0a, 0x0a0a0a0a, 0x0a0a0a0a);
        x.end(7);
        x.read(0);
        for (int i = 0; i < 40; i++) {
            x.feed(0x312c322c, 0x332c3420, 0x20202020, 0x20202020, 0x20202020);
            x.end(7);
            x.row(0);
        }
        x.joined(0, 0, 0, 0, 1);
        x.cut(0, 0, 6);
        for (int i = 0; i < 385; i++) {
            x.joined(0, 0, 0, 0, 1);
        }
        long taken = bean.getThreadAllocatedBytes(thread) - before;
        System.out.println("512 calls took " + taken + " bytes");
        Check.due("bytes taken", taken < 4_000_000, true);
    }
}
