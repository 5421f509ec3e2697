import java.lang.reflect.InvocationTargetException;
import java.lang.reflect.Method;
import java.lang.reflect.Modifier;
import java.util.ArrayList;
import java.util.Comparator;
import java.util.List;
import java.util.NoSuchElementException;
import java.util.Random;

/** Calls with any numbers at all: nothing but NoSuchElementException comes out, and that where the face says so. */
public final class WildCallsTest {
    private static final int[] EDGES = {Integer.MIN_VALUE, Integer.MIN_VALUE + 1, -301, -300, -201, -200, -9, -8, -2, -1, 0,
        1, 2, 3, 4, 5, 6, 7, 8, 9, 12, 13, 16, 17, 40, 41, 48, 49, 80, 81, 200, 201, 300, 301, 400, 401, 9999, 10000,
        Integer.MAX_VALUE - 1, Integer.MAX_VALUE};

    public static void main(String[] args) throws Exception {
        List<Method> calls = new ArrayList<>();
        for (Method m : MicRow.class.getDeclaredMethods()) {
            if (Modifier.isPublic(m.getModifiers())) {
                calls.add(m);
            }
        }
        calls.sort(Comparator.comparing(Method::getName));
        for (int seed = 0; seed < 60; seed++) {
            wildRun(calls, new Random(seed), seed % 5 == 0);
        }
        Check.finish();
    }

    private static void wildRun(List<Method> calls, Random random, boolean empty) throws Exception {
        MicRow x = empty ? new MicRow() : Check.with("00,07,13,20,31,40", "+894808;-83012345678012;+0144;-1977");
        for (int i = 0; i < 450; i++) {
            Method m = calls.get(random.nextInt(calls.size()));
            if (m.getName().equals("mics") || m.getName().equals("goes") || m.getName().equals("sources")) {
                if (random.nextInt(10) != 0) {
                    continue;
                }
            }
            Object[] numbers = new Object[m.getParameterCount()];
            for (int k = 0; k < numbers.length; k++) {
                numbers[k] = random.nextInt(8) == 0 ? random.nextInt() : EDGES[random.nextInt(EDGES.length)];
            }
            Check.yes(m.getName() + java.util.Arrays.toString(numbers), endsAsTheFaceSays(x, m, numbers));
        }
    }

    private static boolean endsAsTheFaceSays(MicRow x, Method m, Object[] numbers) throws Exception {
        try {
            m.invoke(x, numbers);
            return true;
        } catch (InvocationTargetException e) {
            return e.getCause().getClass() == NoSuchElementException.class && m.getExceptionTypes().length == 1;
        }
    }
}
