import java.lang.reflect.InvocationTargetException;
import java.lang.reflect.Method;
import java.lang.reflect.Modifier;
import java.util.ArrayList;
import java.util.Comparator;
import java.util.List;
import java.util.Random;

/**
 * Rule 7 of LANGUAGE.md: no call throws or fails to end, for any arguments in any state. The calls go on far behind the
 * 512th, where their answers are free.
 */
public final class AnyCallsTest {
    private static final int[] EDGES = {Integer.MIN_VALUE, Integer.MIN_VALUE + 1, -1_000_000_000, -129, -25, -2, -1, 6, 7, 11, 12, 13, 17, 18, 22, 23,
        24, 25, 35, 36, 37, 50, 51, 99, 100, 119, 120, 121, 127, 128, 1 << 16, 1 << 30, Integer.MAX_VALUE - 1, Integer.MAX_VALUE};
    private static final String TEXTS = "t0 1:0 0 1;t1 9:1 0 2,0 4 5;t2 24:3 2 1;h0 5;p0;p1;p2;o1;g0 0;e0;;;   0123456789tthpoge::,,";
    private static final int SECONDS = 120;

    public static void main(String[] args) throws InterruptedException {
        Thread runs = new Thread(AnyCallsTest::runs);
        runs.setDaemon(true);
        runs.start();
        runs.join(SECONDS * 1000L);
        Check.that("all calls have ended within " + SECONDS + " seconds", !runs.isAlive());
        Check.end();
    }

    private static void runs() {
        List<Method> calls = new ArrayList<>();
        for (Method m : OrganBarrel.class.getDeclaredMethods()) {
            if (Modifier.isPublic(m.getModifiers())) {
                calls.add(m);
            }
        }
        // The machine tells them in no order that is promised, and the same seed should draw the same calls.
        calls.sort(Comparator.comparing(Method::getName));
        Check.due("calls of the face", calls.size(), 30);
        for (int seed = 1; seed <= 40; seed++) {
            run(calls, new Random(seed), seed);
        }
    }

    private static void run(List<Method> calls, Random random, int seed) {
        OrganBarrel x = new OrganBarrel();
        for (int i = 1; i <= 3000; i++) {
            // Of most objects what is typed comes in a row, so that texts are read to their end; barrel() is seldom asked.
            Method call = calls.get(random.nextInt(calls.size()));
            if (call.getName().equals("barrel") && random.nextInt(8) > 0) {
                call = named(calls, "note");
            }
            if (random.nextInt(30) == 0) {
                i += typed(x, random);
            }
            ends(x, call, random, "seed " + seed + ", call " + i);
        }
    }

    private static Method named(List<Method> calls, String name) {
        for (Method m : calls) {
            if (m.getName().equals(name)) {
                return m;
            }
        }
        throw new IllegalStateException(name);
    }

    private static int typed(OrganBarrel x, Random random) {
        x.clear();
        int from = random.nextInt(TEXTS.length());
        int count = random.nextInt(TEXTS.length() - from + 1);
        for (int i = 0; i < count; i++) {
            x.type(TEXTS.charAt(from + i));
        }
        return count + 1;
    }

    private static void ends(OrganBarrel x, Method call, Random random, String when) {
        Object[] numbers = new Object[call.getParameterCount()];
        for (int i = 0; i < numbers.length; i++) {
            numbers[i] = random.nextInt(6) == 0 ? EDGES[random.nextInt(EDGES.length)] : random.nextInt(call.getName().equals("type") ? 128 : 6);
        }
        String what = when + ": " + call.getName() + " " + List.of(numbers);
        try {
            call.invoke(x, numbers);
            Check.that(what, true);
        } catch (InvocationTargetException thrown) {
            Check.that(what + " threw " + thrown.getCause(), false);
        } catch (IllegalAccessException unseen) {
            Check.that(what + " can not be called", false);
        }
    }
}
