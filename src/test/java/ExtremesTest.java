import java.lang.reflect.InvocationTargetException;
import java.lang.reflect.Method;
import java.lang.reflect.Modifier;
import java.util.Arrays;
import java.util.HashMap;
import java.util.Map;

/** Each call with arguments at all ends, in all combinations: none throws, and all answer as the plain oracle does. */
public final class ExtremesTest {
    private static final Checks checks = new Checks("ExtremesTest");
    private static final int[][] NUMBERS = {
        {0},
        {Integer.MIN_VALUE, -2, -1, 0, 1, 2, 3, 4, 5, 6, 7, 8, 9, 10, 11, 12, 13, 14, 17, 18, 19, 20, 21, 23, 24, 99, 100, 101, Integer.MAX_VALUE},
        {Integer.MIN_VALUE, -2, -1, 0, 1, 2, 3, 4, 5, 6, 7, 8, 9, 10, 13, 14, 23, 24, 90, 91, 400, 401, Integer.MAX_VALUE},
        {Integer.MIN_VALUE, -1, 0, 1, 2, 3, 4, 5, 6, 7, 8, 10, 12, 21, 100, 101, 400, 401, Integer.MAX_VALUE},
        {Integer.MIN_VALUE, -1, 0, 1, 2, 3, 4, 7, 8, 400, 401, Integer.MAX_VALUE},
        {Integer.MIN_VALUE, -1, 0, 1, 2, 5, 8, 400, 401}
    };
    private static final String[] STAGE = {
        "man 10 90 2 1 0", "journey 0 1 20 30", "journey 0 4 25 26", "journey 0 1 40 40", "man 5 80 2 3 45", "man 15 95 2 5 0",
        "man 0 100 2 1 0", "write 7 bar 2;near 1", "rules 7", "force 0", "write 7 0 told 1;hidden 2 from 1 word 3", "book 7",
        "write 5 3 told 1", "book 5", "clash01", "image", "mark 3 2 0", "row 0 1 10", "set 0 1 9", "set 0 6 9", "show 1 0 1",
        "row 3 0 3", "show 4 1 0", "row 6 3 0", "act 0 1 2 4"
    };
    private static final int COMBINATIONS_OF_ONE = 120;
    /** No divisor of any number of combinations: a step over all of them that takes each once. */
    private static final int STEP = 7919;

    private final HadItFrom x = new HadItFrom();
    private final Oracle o = new Oracle();

    private ExtremesTest() throws ReflectiveOperationException {
        for (String line : STAGE) {
            if (line.startsWith("write ")) {
                write(line.charAt(6) - '0', line.substring(8));
            } else if (line.equals("clash01")) {
                ask("clash", 0, 1, true);
            } else {
                String[] parts = line.split(" ");
                Object[] arguments = new Object[parts.length - 1];
                for (int i = 1; i < parts.length; i++) {
                    boolean isLong = parts[0].equals("set") && i == 3;
                    arguments[i - 1] = isLong ? (Object) Long.parseLong(parts[i]) : (Object) Integer.parseInt(parts[i]);
                }
                ask(parts[0], arguments);
            }
        }
    }

    public static void main(String[] args) throws ReflectiveOperationException {
        for (Method method : METHODS.values()) {
            callWithAll(method);
        }
        checks.end();
    }

    private static final Map<String, Method> METHODS = methodsOf(HadItFrom.class);
    private static final Map<String, Method> PLAIN_METHODS = methodsOf(Oracle.class);

    private static Map<String, Method> methodsOf(Class<?> asked) {
        Map<String, Method> methods = new HashMap<>();
        for (Method method : asked.getDeclaredMethods()) {
            if (!Modifier.isPrivate(method.getModifiers())) {
                methods.put(method.getName(), method);
            }
        }
        return methods;
    }

    private void write(int shelf, String letters) throws ReflectiveOperationException {
        ask("row", shelf, 0, letters.length());
        for (int i = 0; i < letters.length(); i++) {
            ask("set", shelf, i, (long) letters.charAt(i));
        }
    }

    private void ask(String name, Object... arguments) throws ReflectiveOperationException {
        String call = name + Arrays.toString(arguments);
        long want = ((Number) PLAIN_METHODS.get(name).invoke(o, arguments)).longValue();
        try {
            checks.due(call, ((Number) METHODS.get(name).invoke(x, arguments)).longValue(), want);
        } catch (InvocationTargetException thrown) {
            checks.due(call + " threw " + thrown.getCause(), 1, 0);
        }
    }

    private void askHowMany() throws ReflectiveOperationException {
        for (int what = 0; what <= 17; what++) {
            ask("status", what);
        }
        ask("fault");
        for (int s = 0; s < 8; s++) {
            ask("holds", s);
            ask("element", s, 0);
            ask("element", s, 6);
        }
    }

    private static void callWithAll(Method method) throws ReflectiveOperationException {
        Class<?>[] kinds = method.getParameterTypes();
        int[] numbers = NUMBERS[kinds.length];
        int combinations = 1;
        for (int i = 0; i < kinds.length; i++) {
            combinations *= numbers.length;
        }
        ExtremesTest one = new ExtremesTest();
        for (int c = 0; c < combinations; c++) {
            if (c % COMBINATIONS_OF_ONE == COMBINATIONS_OF_ONE - 1) {
                one.askHowMany();
                one = new ExtremesTest();
            }
            Object[] arguments = new Object[kinds.length];
            int left = (int) ((long) c * STEP % combinations);
            for (int i = 0; i < kinds.length; i++) {
                int number = numbers[left % numbers.length];
                left /= numbers.length;
                arguments[i] = kinds[i] == int.class ? (Object) number : kinds[i] == long.class ? (Object) (long) number : (Object) (number > 0);
            }
            one.ask(method.getName(), arguments);
            one.ask("status", 5);
            one.ask("fault");
        }
        one.askHowMany();
    }
}
