import java.lang.reflect.InvocationTargetException;
import java.lang.reflect.Method;
import java.util.ArrayList;
import java.util.Arrays;
import java.util.HashMap;
import java.util.List;
import java.util.Map;

/**
 * Promises 1 to 37 over all 512 calls of an object: drawn runs of just so many calls, each answer held against the
 * plain model's. The last calls of a run are every call of the face, so that each promise is looked at behind a
 * long life, too.
 */
public final class LongRunsTest {
    private static final int CALLS = 512;

    /** A call, and from where to where each of its numbers goes in an ordinary run. */
    private static final String[] FACE = {
        "row 0 2 0 2 0 40", "set 0 2 0 15 0 4", "copy 0 2 0 9 0 2 0 9 0 9", "drop 0 2",
        "feed 0 255", "castle", "fault", "undo",
        "write 0 3 1 4 0 7", "rub 1 12 0 7", "rain", "days 1 24", "block 0 7 0 3", "clerk 0 3 0 1", "takes 0 3 1 30",
        "stand 0 4",
        "wouldFall 0 7", "left 0 3", "leastFallen 0 90 0 7 0 1", "must", "writings 0 2 0 5 1 4 -1 4",
        "from 0 2 0 5 0 1", "who 0 3 0 2 0 5 1 4", "layer 0 7", "longest 0 3 0 1", "rains 0 7 0 10 0 1",
        "share 0 3 0 1", "drawn 0 60 1 999999 0 1", "image 0 1", "restore 0 1",
        "kind 0 3", "as 0 3 0 5", "ask 0 3 0 1", "trace 0 6", "count 0 7", "status",
    };

    private static final String ACTS = "write rub rain days undo";
    private static final String ROWS = "row set set set copy drop writings from who status";
    private static final String CASTLES = "castle castle image restore write rain undo ask";

    private static final Map<String, int[]> BOUNDS = new HashMap<>();
    private static final Map<String, Method> OF_CLASS = new HashMap<>();
    private static final Map<String, Method> OF_MODEL = new HashMap<>();

    private final int seed;
    private final Drawn drawn;
    private final ChalkCastle x = new ChalkCastle();
    private final PlainCastle y = new PlainCastle();
    private int calls = 0;

    private LongRunsTest(int seed, int wild) {
        this.seed = seed;
        this.drawn = new Drawn(seed, wild);
    }

    public static void main(String[] args) {
        List<String> all = open();
        for (int run = 0; run < 600; run++) {
            List<String> names = new ArrayList<>(all);
            String often = run % 4 == 0 ? ACTS : run % 4 == 1 ? ROWS : run % 4 == 2 ? CASTLES : "";
            for (int i = 0; i < 6 && !often.isEmpty(); i++) {
                names.addAll(Arrays.asList(often.split(" ")));
            }
            new LongRunsTest(run, run % 5 == 0 ? 20 : 1).ofMany(names, all);
        }
        for (int one = 0; one < all.size(); one++) {
            new LongRunsTest(1000 + one, 0).ofMany(all.subList(one, one + 1), all);
        }
        Due.end("LongRunsTest");
    }

    private static List<String> open() {
        for (String told : FACE) {
            String[] words = told.split(" ");
            int[] bounds = new int[words.length - 1];
            for (int i = 0; i < bounds.length; i++) {
                bounds[i] = Integer.parseInt(words[i + 1]);
            }
            BOUNDS.put(words[0], bounds);
        }
        for (Method method : ChalkCastle.class.getDeclaredMethods()) {
            OF_CLASS.put(method.getName(), method);
        }
        for (Method method : PlainCastle.class.getDeclaredMethods()) {
            if (BOUNDS.containsKey(method.getName())
                && method.getParameterCount() * 2 == BOUNDS.get(method.getName()).length) {
                OF_MODEL.put(method.getName(), method);
            }
        }
        List<String> names = new ArrayList<>(BOUNDS.keySet());
        names.sort(null);
        return names;
    }

    /** A castle, then calls by these names, then every call once: just as many as an object is used for. */
    private void ofMany(List<String> names, List<String> all) {
        tell();
        while (hasRoomFor(all.size() + 1)) {
            String name = names.get(drawn.random.nextInt(names.size()));
            boolean made = drawn.random.nextInt(3) > 0;
            if (name.equals("castle") && made && hasRoomFor(121 + all.size())) {
                tell();
            } else if (name.equals("from") && made && hasRoomFor(10 + all.size())) {
                tellChalk();
            } else if (name.equals("who") && made && hasRoomFor(6 + all.size())) {
                tellLines();
            } else {
                callDrawn(name);
            }
        }
        for (String name : all) {
            callDrawn(name);
        }
        Due.is("calls of run " + seed, calls, CALLS);
    }

    private boolean hasRoomFor(int more) {
        return calls + more <= CALLS;
    }

    private void tell() {
        String text = drawn.text(10);
        for (int i = 0; i < text.length(); i++) {
            call("feed", (int) text.charAt(i));
        }
        call("castle");
    }

    /** A row for from: what chalk there is, but for one block. The model is asked, so no call is used up. */
    private void tellChalk() {
        int row = drawn.number(0, 2);
        int one = drawn.random.nextInt(8);
        call("row", row, drawn.number(0, 2), 8);
        for (int b = 0; b < y.count(1); b++) {
            call("set", row, b, y.block(b, 0) - (b == one ? drawn.random.nextInt(9) : 0));
        }
        call("from", row, 0, drawn.number(0, 1));
    }

    /** A row for who: what lines a clerk takes, or one more. */
    private void tellLines() {
        int row = drawn.number(0, 2);
        int clerk = drawn.number(0, 3);
        call("row", row, drawn.number(0, 2), 4);
        for (int t = 0; t < 2; t++) {
            int lines = drawn.number(1, 6);
            call("set", row, 2 * t, lines);
            call("set", row, 2 * t + 1, y.takes(clerk, lines) + drawn.random.nextInt(9) / 8);
        }
        call("who", clerk, row, 0, drawn.number(1, 2));
    }

    private void callDrawn(String name) {
        int[] bounds = BOUNDS.get(name);
        Object[] numbers = new Object[bounds.length / 2];
        for (int i = 0; i < numbers.length; i++) {
            numbers[i] = drawn.number(bounds[2 * i], bounds[2 * i + 1]);
        }
        if (name.equals("days") && drawn.random.nextInt(3) > 0) {
            numbers[0] = 1;
        }
        call(name, numbers);
    }

    private void call(String name, Object... numbers) {
        calls++;
        String said = "run " + seed + ", call " + calls + ": " + name + Arrays.toString(numbers);
        Due.is(said, made(OF_CLASS.get(name), x, numbers), made(OF_MODEL.get(name), y, numbers));
    }

    private static long made(Method method, Object one, Object[] numbers) {
        try {
            return ((Number) method.invoke(one, numbers)).longValue();
        } catch (InvocationTargetException | IllegalAccessException e) {
            System.out.println(method.getName() + Arrays.toString(numbers) + " threw " + e.getCause());
            return Long.MIN_VALUE + System.identityHashCode(one);
        }
    }
}
