import java.lang.reflect.InvocationTargetException;
import java.lang.reflect.Method;
import java.lang.reflect.Modifier;
import java.util.Arrays;

/**
 * No call throws, whatever it is told, in any room; each answers a number that the document knows. Calls that change
 * something go on in the same room for a while, so that they meet what others have left behind.
 */
public final class AnyIntTest {
    private static final int LOW = Integer.MIN_VALUE, HIGH = Integer.MAX_VALUE;
    private static final int[] MANY = {LOW, LOW + 1, -9973, -101, -15, -14, -13, -12, -11, -5, -2, -1, 0, 1, 2, 3, 4, 5, 6, 7,
        8, 9, 10, 11, 12, 13, 14, 20, 21, 23, 24, 25, 30, 31, 59, 60, 61, 126, 127, 128, 215, 216, 217, 9972, 9973, 65536,
        HIGH - 1, HIGH};
    private static final int[] FEW = {LOW, -1, 0, 1, 2, 3, 4, 6, 9, 12, 20, 24, 25, 30, 216, HIGH};
    private static final int CALLS_OF_ONE = 400;

    private static SurfaceSums x;
    private static int calls;
    private static int room;

    public static void main(String[] args) throws IllegalAccessException {
        for (Method m : SurfaceSums.class.getDeclaredMethods()) {
            if (Modifier.isPublic(m.getModifiers())) {
                for (room = 0; room < Room.NAMES.length; room++) {
                    calls = CALLS_OF_ONE;
                    callAll(m, new Object[m.getParameterCount()], 0);
                }
            }
        }
        Due.end();
    }

    private static void callAll(Method m, Object[] told, int i) throws IllegalAccessException {
        if (i == told.length) {
            call(m, told);
            return;
        }
        for (int v : told.length > 2 ? FEW : MANY) {
            told[i] = v;
            callAll(m, told, i + 1);
        }
    }

    private static void call(Method m, Object[] told) throws IllegalAccessException {
        if (calls++ >= CALLS_OF_ONE) {
            x = Room.of(room);
            calls = 1;
        }
        long answer = 0;
        boolean threw = false;
        try {
            answer = ((Number) m.invoke(x, told)).longValue();
        } catch (InvocationTargetException e) {
            threw = true;
        }
        boolean fine = !threw && isKnown(m.getName(), answer);
        // A label for each call would be dearer than the call.
        Due.is(fine ? "" : m.getName() + Arrays.toString(told) + (threw ? " throws" : " knows " + answer), fine ? 1 : 0, 1);
    }

    private static boolean isKnown(String name, long answer) {
        boolean refused = answer >= -5 && answer <= -1 || answer == -11 || answer == -13 || answer == -14;
        switch (name) {
            case "get": return answer == SurfaceSums.NO || answer >= LOW && answer <= HIGH;
            case "odds": return answer == SurfaceSums.NO || answer >= 0 && answer <= 30;
            case "surface": return refused || answer >= 1 && answer <= 24 || answer <= -100 && answer >= -159;
            default: return refused || answer >= 0 && answer <= 9972;
        }
    }
}
