import java.lang.reflect.InvocationTargetException;
import java.lang.reflect.Method;
import java.lang.reflect.Modifier;
import java.util.ArrayList;
import java.util.Arrays;
import java.util.Comparator;
import java.util.List;

/** Any arguments in any state: no call throws; what is refused, found or foretold changes nothing. */
public final class AnyNumbersTest {
    private static final List<String> ALTERING = Arrays.asList("row", "set", "copy", "drop", "feed", "castle", "undo",
        "write", "rub", "rain", "days", "image", "restore", "ask");

    public static void main(String[] args) {
        List<Method> calls = new ArrayList<>();
        for (Method method : ChalkCastle.class.getDeclaredMethods()) {
            if (Modifier.isPublic(method.getModifiers())) {
                calls.add(method);
            }
        }
        calls.sort(Comparator.comparing(Method::getName));
        for (int run = 0; run < 3000; run++) {
            runOf(calls, run);
        }
        Due.end("AnyNumbersTest");
    }

    private static void runOf(List<Method> calls, int seed) {
        Drawn drawn = new Drawn(seed, 0);
        ChalkCastle x = new ChalkCastle();
        if (seed % 5 != 0) {
            Due.read(x, drawn.text(5));
        }
        Due.is("row", x.row(0, 2, 12), 12);
        for (int i = 0; i < 12; i++) {
            x.set(0, i, i % 3);
        }
        Drawn wild = new Drawn(seed, 30);
        for (int i = 0; i < 25; i++) {
            Method method = calls.get(wild.random.nextInt(calls.size()));
            Object[] numbers = new Object[method.getParameterCount()];
            for (int p = 0; p < numbers.length; p++) {
                numbers[p] = wild.number(0, wild.random.nextBoolean() ? 3 : 12);
            }
            boolean looked = i % 8 == 7;
            String before = looked ? Due.seen(x) : "";
            long answer = made(method, x, numbers);
            boolean refused = answer <= ChalkCastle.BAD && answer > -1000100;
            if (looked && (refused || !ALTERING.contains(method.getName()))) {
                Due.holds("nothing changes by " + method.getName() + Arrays.toString(numbers),
                    before.equals(Due.seen(x)));
            }
        }
    }

    private static long made(Method method, ChalkCastle x, Object[] numbers) {
        try {
            return ((Number) method.invoke(x, numbers)).longValue();
        } catch (InvocationTargetException | IllegalAccessException e) {
            Due.holds(method.getName() + Arrays.toString(numbers) + " threw " + e.getCause(), false);
            return 0;
        }
    }
}
