import java.lang.reflect.Method;
import java.lang.reflect.Modifier;
import java.util.ArrayList;
import java.util.Comparator;
import java.util.List;
import java.util.Random;

/** Every call with edges and far numbers for all of its arguments at once: none throws, all answer as the model. */
public final class WildTest {
    private static final int[] NUMBERS = {
        Integer.MIN_VALUE, Integer.MIN_VALUE + 1, -1000000, -101, -100, -99, -2, -1, 0, 0, 0, 1, 1, 1, 2, 2, 3, 3, 4, 5, 6, 7, 8,
        9, 10, 11, 12, 20, 23, 24, 25, 33, 34, 39, 40, 41, 50, 97, 99, 100, 101, 123, 124, 223, 255, 256, 999, 1000, 2376,
        9923, 9999, 10000, 1000000, Integer.MAX_VALUE - 1, Integer.MAX_VALUE,
    };

    public static void main(String[] args) throws Exception {
        Due due = new Due("WildTest");
        List<Method> calls = new ArrayList<>();
        for (Method method : CoatsFitTheMood.class.getDeclaredMethods()) {
            if (Modifier.isPublic(method.getModifiers())) calls.add(method);
        }
        calls.sort(Comparator.comparing(Method::getName));
        for (int run = 0; run < 300; run++) {
            Random random = new Random(run);
            CoatsFitTheMood x = new CoatsFitTheMood();
            Model y = new Model();
            for (int i = 0; i < 512; i++) {
                Method call = calls.get(random.nextInt(calls.size()));
                Object[] numbers = new Object[call.getParameterCount()];
                for (int j = 0; j < numbers.length; j++) numbers[j] = NUMBERS[random.nextInt(NUMBERS.length)];
                Method same = Model.class.getDeclaredMethod(call.getName(), call.getParameterTypes());
                long got = ((Number) call.invoke(x, numbers)).longValue();
                long want = ((Number) same.invoke(y, numbers)).longValue();
                due.is("run " + run + ": " + call.getName() + java.util.Arrays.toString(numbers), got, want);
            }
        }
        due.end();
    }
}
