import java.lang.reflect.InvocationTargetException;
import java.lang.reflect.Method;
import java.lang.reflect.Modifier;
import java.util.Arrays;
import java.util.NoSuchElementException;
import java.util.Random;

/**
 * Every method with all kinds of arguments, far ones too, in several states of an object: none but
 * brook() ever throws, and that one a NoSuchElementException alone.
 */
public final class ArgumentsTest {
    private static final int[] VALUES = {
        Integer.MIN_VALUE, Integer.MIN_VALUE + 1, -1000, -2, -1, 0, 1, 2, 3, 4, 5, 6, 7, 9, 10, 11, 12, 15, 16, 20, 21,
        30, 31, 32, 33, 40, 41, 60, 61, 63, 64, 99, 100, 159, 160, 161, 1023, 1024, 0x34343434, Integer.MAX_VALUE,
    };
    private static final long[] SEEDS = {0, 1, -1, Long.MIN_VALUE, Long.MAX_VALUE};

    public static void main(String[] args) throws IllegalAccessException {
        Method[] methods = StickRace.class.getDeclaredMethods();
        Arrays.sort(methods, (a, b) -> a.getName().compareTo(b.getName()));
        Random random = new Random(1);
        for (int state = 0; state < 6; state++) {
            for (Method m : methods) {
                if (Modifier.isPublic(m.getModifiers())) {
                    calls(m, state, random);
                }
            }
        }
        Checks.finish("ArgumentsTest");
    }

    /** Each object takes 100 calls, so that what one call does meets the next ones. */
    private static void calls(Method m, int state, Random random) throws IllegalAccessException {
        for (int object = 0; object < 4; object++) {
            StickRace r = inState(state);
            for (int call = 0; call < 100; call++) {
                ask(r, m, arguments(m, random));
            }
        }
    }

    private static Object[] arguments(Method m, Random random) {
        Class<?>[] types = m.getParameterTypes();
        Object[] a = new Object[types.length];
        for (int i = 0; i < a.length; i++) {
            if (types[i] == long.class) {
                a[i] = SEEDS[random.nextInt(SEEDS.length)];
            } else {
                a[i] = random.nextInt(3) == 0 ? VALUES[random.nextInt(VALUES.length)] : random.nextInt(6);
            }
        }
        return a;
    }

    private static void ask(StickRace r, Method m, Object[] a) throws IllegalAccessException {
        String call = m.getName() + Arrays.toString(a);
        try {
            m.invoke(r, a);
            Checks.due(call, 0, 0);
        } catch (InvocationTargetException e) {
            boolean told = m.getName().equals("brook") && e.getCause() instanceof NoSuchElementException;
            Checks.due(call + " threw " + e.getCause() + " (1: as told)", told, true);
        }
    }

    private static StickRace inState(int state) {
        StickRace r = new StickRace();
        if (state == 0) {
            return r;
        }
        String[] brooks = {"4@4o44;44@444;4o4444;o44444", "1234;5678", "9999999999999999;oooooooooooooooo;@@@@@@@@@@@@@@@@"};
        for (String b : brooks) {
            Checks.brook(r, b);
        }
        String[] sticks = {"l1", "l2,f9", "l3,h9", "f3,h0", "l5", "h7,f5"};
        for (String s : sticks) {
            Checks.stick(r, s);
        }
        Checks.feed(r, "4444;44@4;l1,h2,f3");
        if (state == 1) {
            return r;
        }
        r.weather(0, state == 2 ? 0 : 3 - state);
        r.on(0);
        r.runner(0, 0);
        r.runner(1, 1);
        r.sight(0, 0, 5);
        if (state >= 3) {
            r.start(state);
            r.tick(state == 3 ? 1 : 60);
            r.image();
        }
        if (state == 5) {
            r.weather(1, 2);
            r.on(2);
            r.runner(3, 1);
            r.runner(0, 2);
        }
        return r;
    }
}
