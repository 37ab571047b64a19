import java.lang.reflect.InvocationTargetException;
import java.lang.reflect.Method;
import java.lang.reflect.Modifier;
import java.util.Arrays;
import java.util.Comparator;
import java.util.NoSuchElementException;

/** All promises with numbers far out of bounds: nothing is thrown but by fork, and nothing changes. */
public final class ExtremesTest {
    private static final int[] NUMBERS = {
        Integer.MIN_VALUE, Integer.MIN_VALUE + 1, -1000001, -33, -32, -31, -2, 31, 32, 33, 62, 63, 64, 65, 100, 1000,
        1 << 16, 1 << 30, Integer.MAX_VALUE - 1, Integer.MAX_VALUE};
    private static final String HEATH = "sw6h5a9y9;vd1f9:rrrrrddd;vc29d60:uulll;ic3;kc4p9;fw60i9x5e9;fc29g1;fc29e5";

    public static void main(String[] args) throws IllegalAccessException {
        Method[] methods = HeathForks.class.getDeclaredMethods();
        Arrays.sort(methods, Comparator.comparing(Method::getName));
        for (Method method : methods) {
            if (Modifier.isPublic(method.getModifiers()) && method.getParameterCount() > 0
                    && !method.getName().equals("feed")) {
                refuses(method, false);
                refuses(method, true);
            }
        }
        Check.finish("ExtremesTest");
    }

    private static HeathForks made(boolean withHeath) {
        HeathForks x = new HeathForks();
        if (withHeath) {
            Check.tell(x, 0, HEATH);
        }
        Check.tell(x, 1, "y:d*9999*9999-o");
        Check.tell(x, 2, "0rdrd;9u");
        x.law(0);
        x.stroll(20, 7);
        x.sink(1);
        x.hear(0, 1, true);
        return x;
    }

    private static void refuses(Method method, boolean withHeath) throws IllegalAccessException {
        HeathForks x = made(withHeath);
        int[] before = counts(x);
        int calls = 0;
        for (int i = 0; i < NUMBERS.length; i++) {
            for (int j = 0; j < method.getParameterCount(); j++) {
                Object[] args = new Object[method.getParameterCount()];
                for (int k = 0; k < args.length; k++) {
                    int number = k == j ? NUMBERS[i] : NUMBERS[(i * 7 + k) % NUMBERS.length];
                    Class<?> type = method.getParameterTypes()[k];
                    if (type == long.class) {
                        args[k] = (long) number << 32;
                    } else if (type == boolean.class) {
                        args[k] = i % 2 == 0;
                    } else {
                        args[k] = number;
                    }
                }
                if (method.getName().equals("stroll") && (int) args[0] > 0 && (int) args[0] <= 60) {
                    continue;
                }
                Check.due(method.getName() + Arrays.toString(args) + " is refused", refused(x, method, args), true);
                calls++;
            }
        }
        Check.due(method.getName() + " was called", calls > 0, true);
        Check.due(method.getName() + " refused changes nothing", Arrays.equals(before, counts(x)), true);
    }

    private static boolean refused(HeathForks x, Method method, Object[] args) throws IllegalAccessException {
        try {
            Object answer = method.invoke(x, args);
            return answer.equals(false) || answer.equals(HeathForks.NONE) || answer.equals(HeathForks.HIDDEN)
                || method.getName().equals("fault") && answer.equals(-2);
        } catch (InvocationTargetException e) {
            return method.getName().equals("fork") && e.getCause() instanceof NoSuchElementException;
        }
    }

    private static int[] counts(HeathForks x) {
        int[] counts = new int[14];
        for (int what = 0; what < 14; what++) {
            counts[what] = x.count(what);
        }
        return counts;
    }
}
