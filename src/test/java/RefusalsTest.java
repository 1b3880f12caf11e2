import java.lang.reflect.InvocationTargetException;
import java.lang.reflect.Method;
import java.lang.reflect.Modifier;
import java.util.ArrayList;
import java.util.Arrays;
import java.util.Comparator;
import java.util.List;

/**
 * Refusals, in their order, change nothing: every call with every edge for all of its arguments at once. What is refused
 * answers as the model does, and behind it all that may be asked answers as of a twin on which nothing was called.
 */
public final class RefusalsTest {
    private static final Due due = new Due("RefusalsTest");
    private static final int[] EDGES = {Integer.MIN_VALUE, -1, 0, 1, 3, 6, 8, 9, 10, 24, 41, 100, 256, 10000};
    private static final int[] FEW_EDGES = {-1, 0, 2, 3, 4, 11, Integer.MAX_VALUE};
    /** So many that no object takes more than 512 calls, what it is asked behind them too. */
    private static final int MOST_REFUSED = 20;

    private interface State {
        void of(Object on);
    }

    public static void main(String[] args) {
        State[] states = {on -> { }, RefusalsTest::some, RefusalsTest::full};
        List<Method> calls = new ArrayList<>();
        for (Method method : CoatsFitTheMood.class.getDeclaredMethods()) {
            if (Modifier.isPublic(method.getModifiers())) calls.add(method);
        }
        calls.sort(Comparator.comparing(Method::getName));
        for (int state = 0; state < states.length; state++) {
            for (Method call : calls) refusalsOf(call, state, states[state]);
        }
        due.end();
    }

    /** Makes a call by its name, on the class or on the model. */
    private static long ask(Object on, String name, int... numbers) {
        Class<?>[] types = new Class<?>[numbers.length];
        Object[] values = new Object[numbers.length];
        for (int i = 0; i < numbers.length; i++) {
            types[i] = int.class;
            values[i] = numbers[i];
        }
        try {
            return ((Number) on.getClass().getDeclaredMethod(name, types).invoke(on, values)).longValue();
        } catch (InvocationTargetException e) {
            due.is(name + Arrays.toString(numbers) + " threw " + e.getCause(), 1, 0);
            return 0;
        } catch (ReflectiveOperationException e) {
            throw new IllegalStateException(e);
        }
    }

    private static void feed(Object on, String text) {
        for (int i = 0; i < text.length(); i++) ask(on, "feed", text.charAt(i));
    }

    private static void row(Object on, int sheet, int sort, int... items) {
        ask(on, "sheet", sheet, sort, items.length);
        for (int i = 0; i < items.length; i++) ask(on, "cell", sheet, i, items[i]);
    }

    /** Three COATS, an IMAGE of two, a second TEXT, half a TEXT on THE TAPE, a SHEET of each sort and a missing one. */
    private static void some(Object on) {
        ask(on, "coat", 1, 2, 30);
        ask(on, "coat", 4, 5, 60);
        ask(on, "set", 3, 1, 77);
        ask(on, "push", 1, 5, 20);
        ask(on, "image");
        ask(on, "coat", 0, 7, 55);
        ask(on, "push", 0, 12, -30);
        feed(on, "eases 9;fines off;costs 7;");
        ask(on, "text");
        ask(on, "force", 1);
        feed(on, "eases 1;fines 2;");
        ask(on, "dress", 0, 0);
        row(on, 1, 1, 5, 9, 99, 2, 1, 40);
        row(on, 2, 2, 3, 3, 3, 0, 1, 2, 4, 4, 4);
    }

    /** Eight COATS, six TEXTS, 160 bytes on THE TAPE, WORN to 999, SHEETS of 40, no IMAGE. */
    private static void full(Object on) {
        for (int i = 0; i < 8; i++) ask(on, "coat", i % 6, i, 12 * i);
        for (int i = 1; i < 6; i++) {
            feed(on, "eases" + i + ";fines7;costs9;");
            ask(on, "text");
        }
        for (int i = 0; i < 160; i++) ask(on, "feed", ' ');
        ask(on, "force", 5);
        ask(on, "set", 3, 7, 999);
        for (int sheet = 0; sheet < 4; sheet++) ask(on, "sheet", sheet, sheet % 3, sheet == 0 ? 24 : 40);
    }

    private static boolean isRefusal(String name, long answer) {
        // Behind a -12 of coats() what stood ahead came: that is no call that changes nothing.
        if (name.equals("coats") && answer == -12) return false;
        return answer == Model.NO || answer <= -2 && answer >= -4 || answer <= -11 && answer >= -14;
    }

    private static void refusalsOf(Method call, int number, State state) {
        int many = call.getParameterCount();
        int[] edges = many < 4 ? EDGES : FEW_EDGES;
        int all = 1;
        for (int i = 0; i < many; i++) all *= edges.length;
        CoatsFitTheMood x = null;
        int refused = 0;
        for (int n = 0; n < all; n++) {
            int[] numbers = new int[many];
            for (int i = 0, rest = n; i < many; i++, rest /= edges.length) numbers[i] = edges[rest % edges.length];
            Model model = new Model();
            state.of(model);
            long want = ask(model, call.getName(), numbers);
            if (!isRefusal(call.getName(), want)) continue;
            if (x == null) {
                x = new CoatsFitTheMood();
                state.of(x);
            }
            String told = "state " + number + ": " + call.getName() + Arrays.toString(numbers);
            due.is(told, ask(x, call.getName(), numbers), want);
            refused++;
            if (refused % MOST_REFUSED == 0) {
                likeATwin(x, call.getName(), number, state);
                x = null;
            }
        }
        if (x != null) likeATwin(x, call.getName(), number, state);
    }

    private static void likeATwin(CoatsFitTheMood x, String name, int number, State state) {
        CoatsFitTheMood twin = new CoatsFitTheMood();
        state.of(twin);
        List<Long> answers = answers(x);
        List<Long> dues = answers(twin);
        String behind = "state " + number + ", behind " + name;
        due.is(behind + ", how many answers", answers.size(), dues.size());
        for (int i = 0; i < Math.min(answers.size(), dues.size()); i++) {
            due.is(behind + ", answer " + i, answers.get(i), dues.get(i));
        }
    }

    /** What an object answers of all that it holds; it is spent then. */
    private static List<Long> answers(CoatsFitTheMood x) {
        List<Long> all = new ArrayList<>();
        ofAll(x, all);
        for (int text = 0; text < x.count(2); text++) {
            all.add((long) x.force(text));
            for (int what = 0; what < 3; what++) all.add((long) x.asks(0, 5000, what));
        }
        for (int sheet = 0; sheet < 4; sheet++) {
            for (int what = 0; what < 3; what++) all.add((long) x.plan(sheet, 0, what));
            for (int sort = 0; sort < 3; sort++) all.add((long) x.coats(sheet, sort, 0, 2));
            int[] sizes = {0, 6, 24, 40};
            for (int n : sizes) all.add((long) x.copy(sheet, n, sheet, n, 0));
        }
        Due.feed(x, "costs 3;");
        all.add((long) x.text());
        ofCoats(x, all);
        all.add((long) x.back());
        ofAll(x, all);
        return all;
    }

    private static void ofAll(CoatsFitTheMood x, List<Long> all) {
        for (int what = 0; what < 5; what++) all.add((long) x.count(what));
        int[] hours = {0, 12, 23};
        for (int hour : hours) {
            for (int one = 0; one < 3; one++) all.add((long) x.told(100 * one + hour, 0));
        }
        ofCoats(x, all);
    }

    private static void ofCoats(CoatsFitTheMood x, List<Long> all) {
        for (int coat = 0; coat < 8; coat++) {
            for (int what = 1; what <= 4; what++) all.add((long) x.told(coat, what));
        }
    }
}
