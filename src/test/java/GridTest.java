import java.lang.reflect.Method;
import java.util.ArrayList;
import java.util.Arrays;
import java.util.List;

/**
 * Every call with every choice of numbers that stand at some bound, or far from all, in several states: each answer beside
 * that of the slow twin, and nothing is ever thrown.
 */
public final class GridTest {
    private static final int LEAST = Integer.MIN_VALUE, MOST = Integer.MAX_VALUE;
    private static final int[] NUMBERS = {
        LEAST, LEAST + 1, -1000000001, -256, -2, -1, 0, 1, 2, 3, 4, 5, 6, 7, 8, 9, 10, 11, 14, 15, 16, 17, 29, 30, 31, 32, 59,
        60, 61, 62, 64, 98, 99, 100, 101, 127, 128, 254, 255, 256, 257, 511, 1000000000, 1 << 30, MOST - 1, MOST,
    };
    /** For calls of three numbers, so that the choices do not become too many. */
    private static final int[] FEWER = {LEAST, -2, -1, 0, 1, 3, 4, 7, 8, 15, 16, 30, 31, 60, 61, 98, 99, 100, 255, MOST};
    private static final int CALLS_OF_A_STATE = 150, FAULTS_SHOWN = 20;
    private static final String FOUR = "s4;p0 9;p1 7;p2 5;p0 2;c0 1 2;c1 2 3;c0 3 9;c2 3 1;";
    /** Each state is told by calls; a call is its name and its numbers. */
    private static final String[][] STATES = {
        {""},
        {"s3;"},
        {"s1;p3 0;", "letIn 255", "hour 1"},
        {FOUR, "letIn 3", "hour 1", "keep 0", "gate 2 1", "crack 1 3", "letIn 5", "hour 3", "drip 3 0 2", "write 0 7", "feed 115"},
        {FOUR, "seed 5", "drift 60", "clear 0", "letIn 9", "drip 3 1 99", "drip 1 0 2", "crack 0 0", "keep 1", "hour 2"},
    };

    private GossipArches x;
    private SlowArches y;
    private final String[] state;
    private int calls = CALLS_OF_A_STATE;

    private GridTest(String[] state) {
        this.state = state;
    }

    public static void main(String[] args) throws ReflectiveOperationException {
        for (String[] state : STATES) {
            GridTest grid = new GridTest(state);
            for (Method method : GossipArches.class.getDeclaredMethods()) {
                if (java.lang.reflect.Modifier.isPublic(method.getModifiers()) && Check.wrongSoFar() < FAULTS_SHOWN) {
                    grid.callAll(method);
                }
            }
        }
        Check.end();
    }

    private void callAll(Method method) throws ReflectiveOperationException {
        Class<?>[] kinds = method.getParameterTypes();
        List<Object[]> choices = new ArrayList<>();
        choices.add(new Object[0]);
        for (Class<?> kind : kinds) {
            List<Object[]> longer = new ArrayList<>();
            for (Object[] choice : choices) {
                for (Object number : kind == boolean.class ? new Object[] {true, false} : numbers(kinds.length)) {
                    Object[] more = Arrays.copyOf(choice, choice.length + 1);
                    more[choice.length] = number;
                    longer.add(more);
                }
            }
            choices = longer;
        }
        for (Object[] choice : choices) {
            call(method, choice);
        }
    }

    private static Object[] numbers(int parameters) {
        return Arrays.stream(parameters > 2 ? FEWER : NUMBERS).boxed().toArray();
    }

    private void call(Method method, Object[] numbers) throws ReflectiveOperationException {
        if (calls == CALLS_OF_A_STATE) {
            begin();
        }
        calls++;
        both(method.getName(), method.getParameterTypes(), numbers);
    }

    private void begin() throws ReflectiveOperationException {
        x = new GossipArches();
        y = new SlowArches();
        calls = 0;
        for (int i = 0; i < state[0].length(); i++) {
            both("feed", new Class<?>[] {int.class}, new Object[] {(int) state[0].charAt(i)});
        }
        both("works", new Class<?>[0], new Object[0]);
        for (int i = 1; i < state.length; i++) {
            String[] words = state[i].split(" ");
            Object[] numbers = new Object[words.length - 1];
            Class<?>[] kinds = new Class<?>[numbers.length];
            for (int k = 0; k < numbers.length; k++) {
                boolean is = words[0].equals("gate") && k == 1;
                kinds[k] = is ? boolean.class : int.class;
                numbers[k] = is ? (Object) words[k + 1].equals("1") : (Object) Integer.valueOf(words[k + 1]);
            }
            both(words[0], kinds, numbers);
        }
    }

    private void both(String name, Class<?>[] kinds, Object[] numbers) throws ReflectiveOperationException {
        int got = (int) GossipArches.class.getDeclaredMethod(name, kinds).invoke(x, numbers);
        int want = (int) SlowArches.class.getDeclaredMethod(name, kinds).invoke(y, numbers);
        Check.same(state[0] + " .. " + name + Arrays.toString(numbers), got, want);
    }
}
