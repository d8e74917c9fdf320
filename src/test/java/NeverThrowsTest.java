import java.lang.reflect.InvocationTargetException;
import java.lang.reflect.Method;
import java.lang.reflect.Modifier;
import java.util.ArrayList;
import java.util.List;

/** No call throws, whatever its numbers and whatever was called before; what it answers is a number as told. */
public final class NeverThrowsTest {
    private static final int[] NUMBERS = {Integer.MIN_VALUE, -65536, -7, -2, -1, 0, 1, 7, 8, 9, 31, 32, 65, 99, 100,
        126, 999, 1000, 9999, 10000, 65537, Integer.MAX_VALUE};
    /** Four numbers of a call are taken from these, or there would be too many calls. */
    private static final int[] FEW = {Integer.MIN_VALUE, -1, 0, 1, 7, 8, 99, 100, 999, 1000, Integer.MAX_VALUE};
    private static final int STATES = 6;

    public static void main(String[] args) throws IllegalAccessException {
        for (Method m : FarthestFirst.class.getDeclaredMethods()) {
            if (Modifier.isPublic(m.getModifiers())) {
                everywhere(m);
            }
        }
        Due.finish();
    }

    private static void everywhere(Method m) throws IllegalAccessException {
        List<Object[]> all = arguments(m.getParameterTypes());
        for (int state = 0; state < STATES; state++) {
            boolean thrown = false;
            boolean told = true;
            for (Object[] a : all) {
                try {
                    int got = (int) m.invoke(made(state), a);
                    told &= got >= FarthestFirst.NONE;
                } catch (InvocationTargetException e) {
                    thrown = true;
                }
            }
            Due.holds(m.getName() + " in state " + state + " never throws", !thrown);
            Due.holds(m.getName() + " in state " + state + " answers no other number below 0", told);
        }
    }

    private static List<Object[]> arguments(Class<?>[] types) {
        List<Object[]> all = new ArrayList<>();
        all.add(new Object[types.length]);
        for (int i = 0; i < types.length; i++) {
            List<Object[]> longer = new ArrayList<>();
            for (Object[] before : all) {
                for (Object v : values(types[i], types.length)) {
                    Object[] a = before.clone();
                    a[i] = v;
                    longer.add(a);
                }
            }
            all = longer;
        }
        return all;
    }

    private static List<Object> values(Class<?> type, int many) {
        List<Object> values = new ArrayList<>();
        if (type == boolean.class) {
            values.add(false);
            values.add(true);
            return values;
        }
        for (int v : many > 3 ? FEW : NUMBERS) {
            values.add(v);
        }
        return values;
    }

    /** Nobody; one; five; eight at their most, all told; eight and a full pad; eight by a law of ones, all told. */
    private static FarthestFirst made(int state) {
        FarthestFirst x = new FarthestFirst();
        if (state == 1) {
            x.come(7, 99, 999, 9, true);
            x.say('H');
        } else if (state == 2) {
            x = Due.five();
            x.say('A');
        } else if (state > 2) {
            int[] most = {20, 9, 9, 1};
            for (int p = 0; p < 8; p++) {
                x.come(p, state == 3 ? 99 : p, state == 3 ? 999 : 0, 9, p % 2 == 0);
                x.set(p % 4, state == 5 ? 1 : most[p % 4]);
            }
            x.image(0);
            for (int i = 0; i < (state == 4 ? 40 : 8); i++) {
                x.say('A' + i % 8);
            }
        }
        return x;
    }
}
