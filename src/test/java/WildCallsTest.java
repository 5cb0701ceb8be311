import java.lang.reflect.InvocationTargetException;
import java.lang.reflect.Method;
import java.util.ArrayList;
import java.util.Arrays;
import java.util.Comparator;
import java.util.List;

/**
 * Drawn calls with fitting and with wild arguments: none throws, two objects with the same calls answer the same, and a
 * call that is refused changes nothing (a third object never hears of those).
 */
final class WildCallsTest {
    private static final int[] EXTREMES = {-2, -1, 0, 1, 2, 3, 5, 6, 9, 10, 11, 12, 40, 60, 61, 99, 100, 109, 110, 119, 120, 255, 256,
        310, 430, 500, 511, 1023, 1024, 1111, 1209, 9999, 10000, Integer.MAX_VALUE, Integer.MIN_VALUE};
    private static final int CALLS = 200;

    private final List<Method> methods = new ArrayList<>();

    public static void main(String[] args) throws Exception {
        WildCallsTest test = new WildCallsTest();
        for (int seed = 0; seed < 400; seed++) {
            test.run(seed);
        }
        Due.end("WildCallsTest");
    }

    private WildCallsTest() {
        methods.addAll(Arrays.asList(TenInDrawers.class.getMethods()));
        methods.removeIf(m -> m.getDeclaringClass() != TenInDrawers.class);
        methods.sort(Comparator.comparing(Method::getName));
        Due.is("methods of the face", methods.size(), 48);
    }

    private void run(int seed) throws Exception {
        Draws draws = new Draws(seed);
        TenInDrawers one = new TenInDrawers();
        TenInDrawers two = new TenInDrawers();
        TenInDrawers spared = new TenInDrawers();
        int wild = draws.of(2, 10, 1000);
        for (int i = 0; i < CALLS; i++) {
            Method m = methods.get(draws.below(methods.size()));
            m = draws.below(8) == 0 ? named(draws.below(2) == 0 ? "card" : "mend") : m;
            Object[] a = arguments(m, draws, wild);
            String call = "seed " + seed + ", call " + i + ": " + m.getName() + Arrays.toString(a);
            long got = answer(m, one, a, call);
            Due.is(call + " once more", answer(m, two, a, call), got);
            if (!refused(m, got)) {
                Due.is(call + " without the refused ones", answer(m, spared, a, call), got);
            }
        }
        compare(one, spared, "seed " + seed);
    }

    private Method named(String name) {
        for (Method m : methods) {
            if (m.getName().equals(name)) {
                return m;
            }
        }
        return methods.get(0);
    }

    private static Object[] arguments(Method m, Draws draws, int wild) {
        Class<?>[] types = m.getParameterTypes();
        Object[] a = new Object[types.length];
        for (int k = 0; k < a.length; k++) {
            int v = draws.below(wild) == 0 ? EXTREMES[draws.below(EXTREMES.length)] : fitting(m.getName(), k, draws);
            if (types[k] == long.class) {
                a[k] = draws.below(20) == 0 ? (long) v << 32 | v : (long) v;
            } else {
                a[k] = v;
            }
        }
        return a;
    }

    private static int fitting(String name, int place, Draws draws) {
        switch (name + place) {
            case "mend0": return draws.of(0, 100 * draws.below(12) + draws.below(10));
            case "of0": return draws.of(0, draws.below(12), 100 * draws.below(12) + draws.below(10));
            case "feed0": return "0123456789fstrkn()!-+*/%<=>&|?;".charAt(draws.below(31));
            case "alike0": case "same0": return 100 * draws.below(4) + draws.below(4);
            case "may1": case "full0": case "file1": case "mended1": return draws.of(0, draws.below(1024));
            case "whose0": case "best0": case "drawers0": case "order0": case "search0":
                return 100 * draws.below(5) + draws.of(10, draws.below(31));
            case "enough0": case "chance0": return 100 * draws.between(1, 12) + draws.between(2, 9);
            case "enough1": return draws.between(1, 9999);
            case "chance1": return draws.below(13);
            case "whose1": case "order1": return draws.between(-2, 4);
            case "drawn0": case "act2": return draws.between(-100000, 100000);
            case "drawn1": return draws.between(1, 50);
            case "row2": return draws.of(0, 3, 20, 40, 60);
            case "cards2": return draws.between(1, 3);
            case "put2": return draws.between(0, 5);
            case "led0": case "count0": return draws.below(5);
            case "cards0": case "who0": case "isTrue0": case "judge0": case "clerk0": case "keep0": case "row0": case "put0":
            case "element0": case "shift0": case "shift2": case "taken0": return draws.below(3);
            default: return draws.below(4);
        }
    }

    private static long answer(Method m, TenInDrawers x, Object[] a, String call) throws IllegalAccessException {
        try {
            return ((Number) m.invoke(x, a)).longValue();
        } catch (InvocationTargetException e) {
            e.getCause().printStackTrace(System.out);
            Due.is(call + " threw", 1, 0);
            return 0;
        }
    }

    /** What is answered so changes nothing; but act() answers any number, and a search in vain is led. */
    private static boolean refused(Method m, long got) {
        boolean refusal = got == -1 || got == -3 || got == -5 || got >= -14 && got <= -11 || got == Long.MIN_VALUE;
        return refusal && !m.getName().equals("act");
    }

    private static void compare(TenInDrawers one, TenInDrawers other, String call) {
        for (int w = 0; w < 6; w++) {
            Due.is(call + ", count(" + w + ")", one.count(w), other.count(w));
            Due.is(call + ", led(" + w + ")", one.led(w), other.led(w));
        }
        for (int c = 0; c < 12; c++) {
            Due.is(call + ", of(" + c + ", 10)", one.of(c, 10), other.of(c, 10));
            for (int f = 0; f < 10; f += 3) {
                Due.is(call + ", sort", one.of(100 * c + f, 0), other.of(100 * c + f, 0));
                Due.is(call + ", ridges", one.of(100 * c + f, 1), other.of(100 * c + f, 1));
            }
        }
        for (int s = 0; s < 6; s++) {
            Due.is(call + ", taken", one.taken(s, 0), other.taken(s, 0));
            for (int i = 0; i < 60; i += 7) {
                Due.is(call + ", element", one.element(s, i), other.element(s, i));
            }
        }
        for (int i = 0; i < 12; i++) {
            Due.is(call + ", trace", one.trace(i), other.trace(i));
        }
        Due.is(call + ", near", one.of(0, 2), other.of(0, 2));
        Due.is(call + ", law", one.law(), other.law());
        Due.is(call + ", alike", one.alike(1, 2), other.alike(1, 2));
        Due.is(call + ", undo", one.undo(), other.undo());
        Due.is(call + ", redo", one.redo(), other.redo());
        Due.is(call + ", back", one.back(), other.back());
        Due.is(call + ", filed", one.of(0, 10), other.of(0, 10));
    }
}
