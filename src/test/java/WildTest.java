import java.lang.reflect.InvocationTargetException;
import java.lang.reflect.Method;
import java.lang.reflect.Modifier;
import java.util.ArrayList;
import java.util.Arrays;
import java.util.Comparator;
import java.util.List;
import java.util.Random;

/** Every call with any numbers, in any state: none throws, and none answers what cannot be an answer. */
public final class WildTest {
    private static final int RUNS = 2000;
    private static final int CALLS = 400;
    private static final int[] WILD = {Integer.MIN_VALUE, Integer.MIN_VALUE + 1, -1000000, -41, -2, -1, 0, 1, 2, 3, 4, 5,
        6, 7, 8, 9, 10, 11, 24, 25, 31, 32, 33, 39, 40, 41, 60, 61, 63, 64, 120, 255, 256, 999999, 1000000, 1 << 30,
        Integer.MAX_VALUE - 1, Integer.MAX_VALUE};
    private static final String[] TOWNS = {"", "h2,0;d0,1;p0,3;", "h3,1;d0,1;d1,2;f0,4;s1,2;n2,6;i0,1;u1,2;",
        "h6,9;d0,1;d1,2;d2,3;d3,4;d4,5;d5,0;p0,0;f1,1;s2,2;k3,3;n4,4;p5,6;i0,1;u0,2;i0,3;u0,4;i0,5;u1,2;i1,3;u1,4;"};
    private static final long LEAST_ANSWER = -1000220;

    private WildTest() {
    }

    public static void main(String[] args) throws IllegalAccessException {
        List<Method> calls = new ArrayList<>();
        for (Method m : DoorVotes.class.getDeclaredMethods()) {
            if (Modifier.isPublic(m.getModifiers())) {
                calls.add(m);
            }
        }
        calls.sort(Comparator.comparing(Method::getName));
        Check.due("calls of the face", calls.size(), 34);
        for (int run = 0; run < RUNS; run++) {
            play(calls, new Random(run));
        }
        Check.end();
    }

    private static void play(List<Method> calls, Random random) throws IllegalAccessException {
        DoorVotes x = new DoorVotes();
        Check.tell(x, TOWNS[random.nextInt(TOWNS.length)]);
        boolean tame = random.nextBoolean();
        for (int k = 0; k < CALLS; k++) {
            Method call = calls.get(random.nextInt(calls.size()));
            Object[] numbers = new Object[call.getParameterCount()];
            for (int i = 0; i < numbers.length; i++) {
                numbers[i] = tame && random.nextInt(8) != 0 ? random.nextInt(4) : WILD[random.nextInt(WILD.length)];
            }
            answer(x, call, numbers);
        }
    }

    private static void answer(DoorVotes x, Method call, Object[] numbers) throws IllegalAccessException {
        String told = call.getName() + Arrays.toString(numbers);
        try {
            long answer = ((Number) call.invoke(x, numbers)).longValue();
            boolean any = call.getName().equals("set") || answer >= LEAST_ANSWER;
            Check.dueTrue(told + " answers " + answer, any);
        } catch (InvocationTargetException e) {
            Check.dueTrue(told + " throws " + e.getCause(), false);
        }
    }
}
