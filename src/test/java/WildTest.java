import java.lang.reflect.InvocationTargetException;
import java.lang.reflect.Method;
import java.lang.reflect.Modifier;
import java.util.ArrayList;
import java.util.Arrays;
import java.util.Comparator;
import java.util.List;
import java.util.Random;

/**
 * Calls with any numbers, in any order (the same ones each time): only the exceptions that a call's
 * head names come out of it, none that the machine throws, and a call that throws changes nothing.
 */
public final class WildTest {

    private static final int[] NUMBERS = {0, 1, 2, 3, 4, 5, 6, 7, 8, 9, 10, 11, 12, 13, 20, 30, 31, 32, 60,
        99, 120, 599, 600, 601, 1599, 1600, 1601, -1, -2, -31, -32, Integer.MAX_VALUE, Integer.MIN_VALUE};
    private static final String[] BOOKS = {Books.FOUR, Books.walkers(8) + Books.planks(12) + Books.plans(6),
        Books.people(9, 20, 1, 1, 5, 7) + "planks 2,9,4,30,1,12;plan p (while near>0 (send fastest with"
            + " slowest; send lightest; rest oil;)) plan q (mend night; do p; mend 5; do p; send a with b;)"
            + " plan r (while 1=1 (note oil; rest 99; if missing>0 (mend weakest;) else (do q;)))",
        Books.people(1, 1) + Books.STRONG + "plan p (while 1=1 (send a;))", "planks 1,2,3;", "#"};
    private static final int CALLS = 150;

    private final Random random;
    private final PlankBridge x = new PlankBridge();

    private WildTest(long seed) {
        random = new Random(seed);
    }

    public static void main(String[] args) throws IllegalAccessException {
        Checks.about("wild calls");
        for (int seed = 0; seed < 1500; seed++) {
            new WildTest(seed).run(seed);
        }
        Checks.end();
    }

    private static List<Method> face() {
        List<Method> all = new ArrayList<>();
        for (Method method : PlankBridge.class.getDeclaredMethods()) {
            if (Modifier.isPublic(method.getModifiers())) {
                all.add(method);
            }
        }
        // Java tells them in no certain order.
        all.sort(Comparator.comparing(Method::getName));
        return all;
    }

    private void run(int seed) throws IllegalAccessException {
        List<Method> face = face();
        Checks.teach(x, BOOKS[seed % 4]);
        for (int i = 0; i < CALLS; i++) {
            if (random.nextInt(60) == 0) {
                Checks.feedText(x, BOOKS[random.nextInt(BOOKS.length)]);
            }
            call("run " + seed + ", call " + i + ", ", face.get(random.nextInt(face.size())));
        }
    }

    private void call(String told, Method method) throws IllegalAccessException {
        Object[] numbers = new Object[method.getParameterCount()];
        int few = random.nextInt(3) > 0 ? 6 : NUMBERS.length;
        for (int i = 0; i < numbers.length; i++) {
            numbers[i] = NUMBERS[random.nextInt(few)];
        }
        long digest = x.digest();
        try {
            method.invoke(x, numbers);
        } catch (InvocationTargetException e) {
            String call = told + method.getName() + Arrays.toString(numbers);
            Checks.due(call + " throws " + e.getCause() + ", and may",
                    Arrays.asList(method.getExceptionTypes()).contains(e.getCause().getClass()), true);
            Checks.due("digest() behind " + call, x.digest(), digest);
        }
    }
}
