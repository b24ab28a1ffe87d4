import java.lang.reflect.InvocationTargetException;
import java.lang.reflect.Method;
import java.lang.reflect.Modifier;
import java.util.Arrays;
import java.util.Comparator;

/** No call throws, for any arguments in any state. */
public final class AnyArgumentsTest {
    private static final Check check = new Check("AnyArgumentsTest");
    private static final int[] ODD = {Integer.MIN_VALUE, -1000001, -2, -1, 0, 1, 2, 3, 4, 5, 6, 7, 31, 32,
        33, 39, 40, 41, 63, 64, 99, 100, 199, 200, 201, 999, 1000, 1700, 10000, 100000, Integer.MAX_VALUE};
    private static final String FULL =
            "chair a holds 1;chair b holds 2;chair c holds 2 stool;chair d holds 1;chair e holds 1 stool;chair f holds 2;"
            + "man a strong 1;man b strong 2;man c strong 15;man d strong 30;man e strong 9 door;man f strong 8 door;"
            + "matter a dies 999;matter b dies 300;matter c dies 20;matter d dies 1;"
            + "wish a a 99;wish b a -99;wish c b 9;wish d c 9;wish f d 1;wish e c -3;"
            + "deal a a for b b;deal b b for c c;deal c c for d d;deal e a for f b;nap 3;"
            + "pass not(yes<no)and(here-sits*2+stands>0 or 1);";

    public static void main(String[] args) throws Exception {
        Method[] methods = Arrays.stream(NineChairs.class.getDeclaredMethods())
                .filter(m -> Modifier.isPublic(m.getModifiers())).toArray(Method[]::new);
        Arrays.sort(methods, Comparator.comparing(Method::getName));
        for (int state = 0; state < 4; state++) {
            for (Method m : methods) {
                callAll(m, made(state));
            }
            NineChairs one = made(state);
            for (Method m : methods) {
                callAll(m, one);
            }
        }
        check.end();
    }

    private static NineChairs made(int state) {
        if (state == 0) {
            return new NineChairs();
        }
        NineChairs x = Check.sitting(FULL);
        if (state >= 2) {
            x.sit(0, 0);
            x.speak(2, 0);
            x.speak(3, 2);
            x.vote(0);
            x.crack(1, true);
            x.found(2);
            x.entry(0, 0, 1);
            x.image(0);
            x.enter(4);
        }
        if (state == 3) {
            for (int i = 0; i < 49; i++) {
                x.stay(200);
            }
            for (int i = 0; i < 85; i++) {
                x.feed(-1, 0x6d616e20, 0x3b3b3b3b, 0x28282828, 0x39393939);
            }
        }
        return x;
    }

    private static void callAll(Method m, NineChairs x) throws IllegalAccessException {
        int count = m.getParameterCount();
        if (count > 3) {
            for (int i = 0; i < 3000; i++) {
                Object[] given = new Object[count];
                for (int j = 0; j < count; j++) {
                    given[j] = ODD[(i * (2 * j + 7) + i / (j + 3)) % ODD.length];
                }
                call(m, x, given);
            }
            return;
        }
        int all = 1;
        for (int i = 0; i < count; i++) {
            all *= ODD.length;
        }
        for (int i = 0; i < all; i++) {
            Object[] given = new Object[count];
            int rest = i;
            for (int j = 0; j < count; j++) {
                int value = ODD[rest % ODD.length];
                rest /= ODD.length;
                given[j] = m.getParameterTypes()[j] == boolean.class ? (Object) (value % 2 == 0) : (Object) value;
            }
            call(m, x, given);
        }
    }

    private static void call(Method m, NineChairs x, Object[] given) throws IllegalAccessException {
        String thrown = "";
        try {
            m.invoke(x, given);
        } catch (InvocationTargetException e) {
            thrown = " threw " + e.getCause();
        }
        check.due(thrown.isEmpty() ? "" : m.getName() + Arrays.toString(given) + thrown, thrown.isEmpty() ? 0 : 1, 0);
    }
}
