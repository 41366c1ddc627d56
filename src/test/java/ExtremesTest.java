import java.lang.reflect.InvocationTargetException;
import java.lang.reflect.Method;
import java.util.Arrays;

/** No call throws, for any arguments in any state, and no call that is refused changes the crystal. */
public final class ExtremesTest {
    private static final Checks C = new Checks("ExtremesTest");
    private static final int[] WILD = {Integer.MIN_VALUE, -1000, -3, -1, 0, 1, 3, 6, 31, 60, 64, 1000, Integer.MAX_VALUE};
    private static final int[] FEW = {Integer.MIN_VALUE, -2, 1, 7, Integer.MAX_VALUE};

    public static void main(String[] args) throws IllegalAccessException {
        for (Method m : CrystalCuts.class.getDeclaredMethods()) {
            if (java.lang.reflect.Modifier.isPublic(m.getModifiers())) {
                for (int state = 0; state < 5; state++) {
                    sweep(m, state);
                }
            }
        }
        longRun();
        C.end();
    }

    private static CrystalCuts make(int state) {
        CrystalCuts x = new CrystalCuts();
        if (state == 1) {
            x.draw(4711, 26);
        }
        if (state == 2) {
            for (int i = 0; i < 130; i++) {
                x.type(i % 2 == 0 ? '0' : ':');
            }
        }
        if (state == 3) {
            x.family(63, 1, 1, 0, 20);
            x.family(63, 1, 1, 1, 30);
        }
        if (state == 4) {
            // As near as can be: the smallest crystal.
            for (int p = 0; p < 6; p++) {
                x.off(p, 1);
            }
            for (int i = 0; i < 26; i++) {
                x.plane(3, i % 7 - 3, i / 7 - 1, 1);
            }
        }
        return x;
    }

    private static void sweep(Method m, int state) throws IllegalAccessException {
        int n = m.getParameterCount();
        int[] values = n <= 3 ? WILD : FEW;
        int all = 1;
        for (int i = 0; i < n; i++) {
            all *= values.length;
        }
        CrystalCuts x = make(state);
        for (int c = 0; c < all; c++) {
            Object[] given = new Object[n];
            for (int i = 0, rest = c; i < n; i++, rest /= values.length) {
                given[i] = values[rest % values.length];
            }
            call(m, x, given);
            if (c % 100 == 99) {
                x = make(state);
            }
        }
    }

    private static void call(Method m, CrystalCuts x, Object[] given) throws IllegalAccessException {
        String told = m.getName() + Arrays.toString(given);
        try {
            Object got = m.invoke(x, given);
            C.holds(told + " answers", got != null);
            C.holds(told + " leaves a crystal", x.all(3) >= 4 && x.all(3) <= 60 && x.all(0) >= 6 && x.all(0) <= 32);
        } catch (InvocationTargetException e) {
            C.holds(told + " threw " + e.getCause(), false);
        }
    }

    /** Far beyond the 512 calls of the document: the answers are free, but nothing throws. */
    private static void longRun() {
        CrystalCuts x = new CrystalCuts();
        for (int i = 0; i < 3000; i++) {
            x.plane(i % 7 - 3, i % 5 - 2, 1, 1 + i % 60);
            x.type(i % 128);
            x.spare(i % 2);
            x.digest();
            if (i % 40 == 0) {
                x.draw(i, 1 + i % 26);
            }
        }
        C.holds("a long run ends", x.told(4) <= 32);
    }
}
