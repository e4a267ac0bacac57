import java.lang.reflect.InvocationTargetException;
import java.lang.reflect.Method;
import java.lang.reflect.Modifier;
import java.util.Arrays;

/**
 * Promises 2 to 37 by all their arguments at once: every call by every choice of numbers far off, at the edges and
 * between them, on new objects and on such that hold something of each KIND; none throws, and each answers as Model does.
 */
public final class ExtremesTest {
    private static final int LEAST = Integer.MIN_VALUE, MOST = Integer.MAX_VALUE, CALLS = 300;
    private static final int[] MANY = {LEAST, LEAST + 1, -9, -1, 0, 1, 2, 3, 4, 5, 6, 7, 11, 12, 13, 31, 32, 44, 45, 46, 63, 64, 65,
        99999, 100000, 100001, MOST - 1, MOST};
    private static final int[] SOME = {LEAST, -1, 0, 1, 2, 3, 5, 6, 14, 15, 44, 45, 64, 100000, MOST};
    private static final int[] FEW = {LEAST, -1, 0, 1, 2, 4, 11, 12, 13, MOST};
    private static final long[] SETS = {Long.MIN_VALUE, -1, 0, 1, 3, 15, 31, 63, 64, 4095, 4096, 32767, 32768, 1L << 31, 1L << 32,
        1L << 44, (1L << 45) - 1, 1L << 45, 1L << 62, Long.MAX_VALUE};

    private static QuadWorlds x;
    private static Model m;
    private static int calls;
    private static boolean fromNew;

    public static void main(String[] args) throws ReflectiveOperationException {
        for (Method call : QuadWorlds.class.getDeclaredMethods()) {
            if (Modifier.isPublic(call.getModifiers())) {
                Method due = Model.class.getDeclaredMethod(call.getName(), call.getParameterTypes());
                for (boolean from : new boolean[] {true, false}) {
                    fromNew = from;
                    begin();
                    choose(call, due, new Object[call.getParameterCount()], 0);
                }
            }
        }
        Due.end("ExtremesTest");
    }

    private static void choose(Method call, Method due, Object[] values, int at) throws ReflectiveOperationException {
        if (at == values.length) {
            hold(call, due, values);
            return;
        }
        Class<?> type = call.getParameterTypes()[at];
        if (type == boolean.class) {
            for (boolean b : new boolean[] {false, true}) {
                values[at] = b;
                choose(call, due, values, at + 1);
            }
        } else if (type == long.class) {
            for (long set : SETS) {
                values[at] = set;
                choose(call, due, values, at + 1);
            }
        } else {
            for (int n : values.length < 3 ? MANY : values.length < 4 ? SOME : FEW) {
                values[at] = n;
                choose(call, due, values, at + 1);
            }
        }
    }

    private static void hold(Method call, Method due, Object[] values) throws ReflectiveOperationException {
        if (calls >= CALLS) {
            begin();
        }
        String name = call.getName() + Arrays.toString(values);
        long want = ((Number) due.invoke(m, values)).longValue();
        try {
            is(name, want, ((Number) call.invoke(x, values)).longValue());
        } catch (InvocationTargetException e) {
            Due.is(name + " threw " + e.getCause(), 0, 1);
        }
        if (calls % 20 == 0) {
            is(name + ", then digest()", m.digest(), x.digest());
            is(name + ", then asked()", m.asked(), x.asked());
            is(name + ", then tries()", m.tries(), x.tries());
            is(name + ", then finding()", m.finding(), x.finding());
        }
    }

    private static void is(String name, long want, long got) {
        calls++;
        Due.is(name, want, got);
    }

    /** New ones; if they are to hold something: a told WORLD, a GRID, a FORM, a MADE one, none, a full one; ROWS of 2, of 12 and of none, and none. */
    private static void begin() {
        x = new QuadWorlds();
        m = new Model();
        calls = 0;
        if (fromNew) {
            return;
        }
        is("world(0, 6)", m.world(0, 6), x.world(0, 6));
        tellLine(0, 0, 1);
        tellLine(0, 1, 3);
        tellLine(0, 3, 4);
        is("grid(1, 3, 4)", m.grid(1, 3, 4), x.grid(1, 3, 4));
        is("form(2, 2)", m.form(2, 2), x.form(2, 2));
        is("dual(1, 3)", m.dual(1, 3), x.dual(1, 3));
        is("world(5, 45)", m.world(5, 45), x.world(5, 45));
        tellLine(5, 0, 44);
        for (int i = 1; i < 45; i++) {
            is("line(5, 0)", m.line(5, 0), x.line(5, 0));
        }
        is("row(1, 12)", m.row(1, 12), x.row(1, 12));
        is("lay(1, 11, 3)", m.lay(1, 11, 3), x.lay(1, 11, 3));
        is("row(2, 0)", m.row(2, 0), x.row(2, 0));
        is("alike(2, 2, 99)", m.alike(2, 2, 99), x.alike(2, 2, 99));
    }

    private static void tellLine(int w, int a, int b) {
        is("row(0, 2)", m.row(0, 2), x.row(0, 2));
        is("lay(0, 0, a)", m.lay(0, 0, a), x.lay(0, 0, a));
        is("lay(0, 1, b)", m.lay(0, 1, b), x.lay(0, 1, b));
        is("line(w, 0)", m.line(w, 0), x.line(w, 0));
    }
}
