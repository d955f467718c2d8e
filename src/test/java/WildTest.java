import java.lang.reflect.InvocationTargetException;
import java.lang.reflect.Method;
import java.lang.reflect.Modifier;
import java.util.Arrays;
import java.util.Comparator;

/** Calls with any arguments in any order throw what the face names, and nothing that the machine throws. */
public final class WildTest {
    private static final int RUNS = 200;
    private static final int CALLS = 512;
    private static final int[] NUMBERS = {0, 0, 1, 1, 2, 3, 4, 5, 6, 7, 8, 9, 20, 63, 64, 65, 100, 600, 601, -1, -2,
        Integer.MAX_VALUE, Integer.MIN_VALUE, Integer.MAX_VALUE - 1, 0x3B206164, 0x64206120, 0x31203B3B};
    private static final String[] TEXTS = {"sets 64 60;set a;set b;add a 1 2 3;add b 63 2;", "sets 4 1;set a;set b;set c;",
        "sets 1 1;set a;mark;", "sets 9 2;set a;add a 0 1 2 3 4 5 6 7 8;clear a;set"};

    private static long seed;

    public static void main(String[] args) throws IllegalAccessException {
        Method[] methods = TwinSets.class.getDeclaredMethods();
        Arrays.sort(methods, Comparator.comparing(Method::getName));
        for (int run = 0; run < RUNS && Check.isFine(); run++) {
            seed = run;
            TwinSets x = new TwinSets();
            for (int i = 0; i < CALLS; i++) {
                if (below(60) == 0) {
                    parseOne(x);
                }
                Method method = methods[below(methods.length)];
                if (Modifier.isPublic(method.getModifiers())) {
                    call(x, method);
                }
            }
        }
        Check.end();
    }

    private static int below(int bound) {
        seed = seed * 6364136223846793005L + 1442695040888963407L;
        return (int) ((seed >>> 33) % bound);
    }

    private static void parseOne(TwinSets x) {
        x.find();
        Check.parse(x, TEXTS[below(TEXTS.length)]);
    }

    private static void call(TwinSets x, Method method) throws IllegalAccessException {
        Object[] arguments = new Object[method.getParameterCount()];
        for (int i = 0; i < arguments.length; i++) {
            if (method.getParameterTypes()[i] == boolean.class) {
                arguments[i] = below(2) == 0;
            } else {
                arguments[i] = below(3) == 0 ? NUMBERS[below(NUMBERS.length)] : below(4);
            }
        }
        try {
            method.invoke(x, arguments);
        } catch (InvocationTargetException e) {
            Throwable thrown = e.getCause();
            boolean isNamed = Arrays.asList(method.getExceptionTypes()).contains(thrown.getClass());
            boolean isOwn = thrown.getStackTrace()[0].getClassName().startsWith("TwinSets");
            if (!isNamed || !isOwn) {
                Check.report(method.getName() + Arrays.toString(arguments) + " threw " + thrown);
            }
        }
    }
}
