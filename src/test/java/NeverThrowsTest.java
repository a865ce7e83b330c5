import java.lang.reflect.InvocationTargetException;
import java.lang.reflect.Method;
import java.lang.reflect.Modifier;
import java.util.Arrays;

/** Every call, with every choice of numbers that are at a boundary of something, in states at a boundary: none throws. */
public final class NeverThrowsTest {
    private static final int[] NUMBERS = {Integer.MIN_VALUE, -10000, -9999, -1, 0, 1, 7, 8, 59, 60, 240, 799, 9999, 10000, Integer.MAX_VALUE};
    private static final int[] FEW = {Integer.MIN_VALUE, -1, 0, Integer.MAX_VALUE};
    private static final String FULL = "set 0 0-59;set 1 9940-9999;set 2 0-59;set 7 0-59;mark 7 0 9999;";

    public static void main(String[] args) throws IllegalAccessException {
        for (Method method : MeltingHeaps.class.getDeclaredMethods()) {
            if (Modifier.isPublic(method.getModifiers())) {
                for (int state = 0; state < 5; state++) {
                    callWithAll(method, state);
                }
            }
        }
        Check.end("NeverThrowsTest");
    }

    private static MeltingHeaps inState(int state) {
        MeltingHeaps x = new MeltingHeaps();
        switch (state) {
            case 1:
                x.put(0, 0);
                x.put(7, 9999);
                x.seek(0, 0);
                break;
            case 2:
                Check.text(x, FULL);
                x.seek(0, 59);
                x.seek(7, 0);
                x.tell(7);
                break;
            case 3:
                Check.text(x, Check.line(0, 1, 55, 60) + Check.line(7, 0, 34, 60));
                Check.text(x, "set 0 5-4;");
                x.image(0);
                break;
            case 4:
                Check.text(x, FULL);
                Check.feed(x, "set 0 ".repeat(133) + "se");
                for (int k = 0; k < 20; k++) {
                    x.seek(0, k);
                }
                x.image(2);
                break;
            default:
                break;
        }
        return x;
    }

    /** Counts through all choices of numbers, like the digits of a clock; what the calls do to the object stays. */
    private static void callWithAll(Method method, int state) throws IllegalAccessException {
        Class<?>[] types = method.getParameterTypes();
        int[] numbers = types.length > 4 ? FEW : NUMBERS;
        int[] digits = new int[types.length];
        MeltingHeaps x = inState(state);
        boolean more = true;
        while (more) {
            Object[] given = new Object[types.length];
            for (int i = 0; i < types.length; i++) {
                given[i] = types[i] == int.class ? (Object) numbers[digits[i]] : (Object) (digits[i] > 0);
            }
            call(x, method, given, state);
            more = false;
            for (int i = 0; i < types.length && !more; i++) {
                int choices = types[i] == int.class ? numbers.length : 2;
                digits[i] = digits[i] + 1 < choices ? digits[i] + 1 : 0;
                more = digits[i] > 0;
            }
        }
        Check.due("KEYS in all behind " + method.getName(), x.count(0) >= 0 && x.count(0) <= 240, true);
    }

    private static void call(MeltingHeaps x, Method method, Object[] given, int state) throws IllegalAccessException {
        String thrown = "nothing";
        try {
            method.invoke(x, given);
        } catch (InvocationTargetException e) {
            thrown = e.getCause().toString();
        }
        if (!thrown.equals("nothing")) {
            Check.due("state " + state + ": " + method.getName() + Arrays.toString(given) + " threw, and", thrown, "nothing");
        }
    }
}
