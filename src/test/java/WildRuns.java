import java.lang.reflect.Method;
import java.util.ArrayList;
import java.util.Arrays;
import java.util.Comparator;
import java.util.List;

/** Every call with every sort of number, in many states: none may throw, and a fresh object answers the same again. */
public final class WildRuns {
    private static final long[] NUMBERS = {
        0, 0, 0, 1, 1, 2, 3, 4, 5, 6, 7, 8, 9, 10, 12, 20, 21, 23, 32, 49, 59, 60, 61, 97, 98, 99, 100, 119, 120, 127, 128,
        -1, -2, -10, -11, -128, 255, 256, 1 << 16, 1L << 31, (1L << 31) - 1, -(1L << 31), 1L << 32, Long.MAX_VALUE, Long.MIN_VALUE,
    };
    private static final int RUNS = 400;

    private long state;

    private WildRuns(long seed) {
        state = seed * 0x2545F4914F6CDD1DL + 1;
    }

    private int below(int n) {
        state ^= state << 13;
        state ^= state >>> 7;
        state ^= state << 17;
        return (int) Math.floorMod(state, (long) n);
    }

    public static void main(String[] args) throws Exception {
        List<Method> methods = new ArrayList<>(Arrays.asList(SmallerOut.class.getDeclaredMethods()));
        methods.removeIf(m -> !java.lang.reflect.Modifier.isPublic(m.getModifiers()));
        methods.sort(Comparator.comparing(Method::getName));
        int wrong = 0;
        for (int run = 1; run <= RUNS && wrong == 0; run++) {
            List<Object> once = new WildRuns(run).run(methods);
            if (!once.equals(new WildRuns(run).run(methods))) {
                wrong++;
                System.out.println("run " + run + " answers otherwise the second time");
            }
        }
        System.out.println("WildRuns: " + RUNS + " runs twice, " + wrong + " wrong");
        if (wrong != 0) {
            System.exit(1);
        }
    }

    /** What was thrown ends the test by itself: invoke() hands it on. */
    private List<Object> run(List<Method> methods) throws Exception {
        SmallerOut x = new SmallerOut();
        List<Object> answers = new ArrayList<>();
        for (int i = 0; i < 3; i++) {
            x.room();
            x.door(1 + below(2) * 19, below(3));
            x.person(1 + below(9), below(2));
            x.person(1 + below(9), below(3));
        }
        for (int i = 0; i < 480; i++) {
            Method one = methods.get(below(methods.size()));
            Object[] with = new Object[one.getParameterCount()];
            for (int k = 0; k < with.length; k++) {
                long number = NUMBERS[below(NUMBERS.length)];
                if (one.getParameterTypes()[k] == long.class) {
                    with[k] = number;
                } else {
                    with[k] = (int) number;
                }
            }
            answers.add(one.invoke(x, with));
        }
        return answers;
    }
}
