import java.lang.reflect.InvocationTargetException;
import java.lang.reflect.Method;

/** Each call with arguments near and far: none throws, and what is refused changes nothing but the count (and the fault). */
public final class ExtremesTest {
    private static final Checks checks = new Checks("ExtremesTest");
    private static final int[] NUMBERS = {Integer.MIN_VALUE, -2, -1, 0, 1, 7, 8, 24, 100, Integer.MAX_VALUE};
    private static final int CALLS = 400;

    public static void main(String[] args) throws IllegalAccessException {
        for (Method method : HadItFrom.class.getDeclaredMethods()) {
            if (java.lang.reflect.Modifier.isPublic(method.getModifiers())) {
                callWithAll(method);
            }
        }
        checks.end();
    }

    private static HadItFrom some() {
        HadItFrom x = Desk.withMen(3);
        x.journey(0, 1, 20, 30);
        Desk.rules(x, "bar 0");
        Desk.book(x, "0 told 1;hidden 2 heard 1 word 3");
        Desk.list(x, 0, 0, 1, 9, 3, 2, 0, 7);
        x.show(1, 0, 1);
        x.image();
        return x;
    }

    private static void callWithAll(Method method) throws IllegalAccessException {
        Class<?>[] kinds = method.getParameterTypes();
        int combinations = 1;
        for (int i = 0; i < kinds.length; i++) {
            combinations *= NUMBERS.length;
        }
        HadItFrom x = some();
        for (int c = 0; c < combinations; c++) {
            if (c % CALLS == CALLS - 1) {
                x = some();
            }
            Object[] arguments = new Object[kinds.length];
            int left = c;
            for (int i = 0; i < kinds.length; i++) {
                int number = NUMBERS[left % NUMBERS.length];
                left /= NUMBERS.length;
                arguments[i] = kinds[i] == int.class ? (Object) number : kinds[i] == long.class ? (Object) (long) number : (Object) (number > 0);
            }
            callOne(x, method, arguments);
        }
    }

    private static void callOne(HadItFrom x, Method method, Object[] arguments) throws IllegalAccessException {
        int refused = refusals(x);
        String before = told(x);
        String call = method.getName() + java.util.Arrays.toString(arguments);
        try {
            long answer = ((Number) method.invoke(x, arguments)).longValue();
            if (refusals(x) != refused) {
                checks.due(call + " refused once", refusals(x), refused + 1);
                checks.due(call + " answered a refusal", answer < 0 && (answer >= -7 || answer >= -13 && answer <= -11) ? 1 : 0, 1);
                checks.due(call + " changed nothing", told(x).equals(before) ? 1 : 0, 1);
            } else {
                checks.due(call + " answered", 1, 1);
            }
        } catch (InvocationTargetException thrown) {
            checks.due(call + " threw " + thrown.getCause(), 1, 0);
        }
    }

    private static int refusals(HadItFrom x) {
        int sum = 0;
        for (int what = 11; what <= 17; what++) {
            sum += x.status(what);
        }
        return sum;
    }

    private static String told(HadItFrom x) {
        StringBuilder all = new StringBuilder();
        for (int what = 0; what <= 5; what++) {
            all.append(x.status(what)).append(' ');
        }
        for (int s = 0; s < 8; s++) {
            all.append(x.holds(s)).append(':');
            for (int i = 0; i < 6; i++) {
                all.append(x.element(s, i)).append(' ');
            }
        }
        return all.append(x.trace(0)).toString();
    }
}
