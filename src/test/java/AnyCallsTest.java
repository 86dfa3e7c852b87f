import java.lang.reflect.InvocationTargetException;
import java.lang.reflect.Method;
import java.lang.reflect.Modifier;
import java.util.ArrayList;
import java.util.Comparator;
import java.util.List;
import java.util.Random;

/** No call throws, whatever its arguments are, in whatever state, not even behind the 512th (that one's answer is free). */
public final class AnyCallsTest {
    private static final int OBJECTS = 40;
    private static final int CALLS = 5000;
    private static final int[] NUMBERS = {Integer.MIN_VALUE, Integer.MIN_VALUE + 1, -100, -2, -1, 0, 0, 0, 1, 1, 2, 3, 4, 5, 6, 7, 8,
        9, 10, 11, 12, 13, 19, 20, 21, 34, 35, 37, 39, 40, 41, 42, 44, 59, 124, 256, 799, 800, 801, 5999, 6000, 6001,
        Integer.MAX_VALUE - 1, Integer.MAX_VALUE};
    private static final String[] TEXTS = {"", "a\n", "a,b\n1,2\n,3.5\n", "a,b,c,d,e,f,g,h\n1,yes,2.5,2024-02-29,x,,7,8\n", "1,2", "1",
        "x", "2024-02-29", "\"", "\t", "a;b\n1;2\n", "a|b\n1|2\n", "a\n" + "1\n".repeat(40), "12345678901234567890", "a\n\"\n\n\""};

    public static void main(String[] args) throws IllegalAccessException {
        List<Method> face = new ArrayList<>();
        for (Method m : TypedTables.class.getDeclaredMethods()) {
            if (Modifier.isPublic(m.getModifiers())) {
                face.add(m);
            }
        }
        face.sort(Comparator.comparing(Method::getName));
        Check.due("methods", face.size(), 37);
        for (int seed = 0; seed < OBJECTS; seed++) {
            Check.due("thrown by calls of " + seed, calls(face, new Random(seed)), "");
        }
        Check.finish();
    }

    /** What the first call that throws throws; nothing if none does. */
    private static String calls(List<Method> face, Random chance) throws IllegalAccessException {
        TypedTables x = new TypedTables();
        for (int i = 0; i < CALLS; i++) {
            if (chance.nextInt(4) == 0) {
                Check.tape(x, TEXTS[chance.nextInt(TEXTS.length)]);
            }
            Method m = face.get(chance.nextInt(face.size()));
            try {
                m.invoke(x, arguments(m, chance));
            } catch (InvocationTargetException e) {
                return m.getName() + " threw " + e.getCause();
            }
        }
        return "";
    }

    private static Object[] arguments(Method m, Random chance) {
        Object[] told = new Object[m.getParameterCount()];
        boolean small = chance.nextInt(3) != 0;
        for (int i = 0; i < told.length; i++) {
            if (m.getParameterTypes()[i] == boolean.class) {
                told[i] = chance.nextBoolean();
            } else {
                told[i] = small ? chance.nextInt(5) - 1 : NUMBERS[chance.nextInt(NUMBERS.length)];
            }
        }
        return told;
    }
}
