import java.lang.reflect.Array;
import java.lang.reflect.Field;
import java.lang.reflect.Modifier;
import java.nio.charset.StandardCharsets;
import java.nio.file.Files;
import java.nio.file.Path;
import java.util.ArrayDeque;
import java.util.Collections;
import java.util.Deque;
import java.util.IdentityHashMap;
import java.util.Set;

/**
 * All calls of a run live in one room that is never swept: an object takes little of it when it is made, and no
 * call takes any more.
 */
public final class RoomTest {
    /** A thousand objects in one run leave the room nearly empty by these. */
    private static final int MOST_OBJECTS = 200, MOST_FIELDS = 2000;

    private int objects = 0;
    private int fields = 0;

    public static void main(String[] args) throws Exception {
        ofANewObject();
        behindManyCalls();
        noCallMakesAnObject();
        Due.end("RoomTest");
    }

    private static void ofANewObject() throws IllegalAccessException {
        RoomTest taken = of(new ChalkCastle());
        System.out.println("a new object: " + taken.objects + " objects, " + taken.fields + " fields and elements");
        Due.holds("few objects: " + taken.objects, taken.objects <= MOST_OBJECTS);
        Due.holds("few fields and elements: " + taken.fields, taken.fields <= MOST_FIELDS);
    }

    private static void behindManyCalls() throws IllegalAccessException {
        RoomTest before = of(new ChalkCastle());
        for (int seed = 0; seed < 20; seed++) {
            Drawn drawn = new Drawn(seed, 2);
            ChalkCastle x = new ChalkCastle();
            PlainCastle y = new PlainCastle();
            for (int part = 0; part < 2; part++) {
                for (int letter : drawn.text(5).toCharArray()) {
                    Due.is("feed", x.feed(letter), y.feed(letter));
                }
                Due.is("castle", x.castle(), y.castle());
                for (int i = 0; i < 40; i++) {
                    drawn.call(x, y);
                }
            }
            RoomTest behind = of(x);
            Due.is("objects behind many calls", behind.objects, before.objects);
            Due.is("fields and elements behind many calls", behind.fields, before.fields);
        }
    }

    /** Only the constructor and the fields' first values make anything. */
    private static void noCallMakesAnObject() throws Exception {
        String source = Files.readString(Path.of("src/main/java/ChalkCastle.java"), StandardCharsets.UTF_8);
        int from = source.indexOf("    public ChalkCastle() {");
        int to = source.indexOf("\n    }\n", from);
        Due.holds("the constructor is found", from >= 0 && to > from);
        String code = source.substring(0, Math.max(0, from)) + source.substring(Math.max(0, to));
        code = code.replaceAll("(?s)/\\*.*?\\*/", " ").replaceAll("//[^\n]*", " ");
        for (String line : code.split("\n")) {
            boolean makes = line.matches(".*\\b(new|clone|copyOf|copyOfRange|valueOf|values|of)\\b.*");
            Due.holds("makes an object: " + line.trim(),
                !makes || line.matches(" {4}( {4}|private )final [\\w\\[\\]]+ \\w+ = new \\w+(\\(\\)|\\[\\w+\\]);"));
        }
    }

    private static RoomTest of(ChalkCastle castle) throws IllegalAccessException {
        RoomTest taken = new RoomTest();
        Set<Object> seen = Collections.newSetFromMap(new IdentityHashMap<>());
        Deque<Object> open = new ArrayDeque<>();
        open.add(castle);
        while (!open.isEmpty()) {
            Object one = open.remove();
            if (seen.add(one)) {
                taken.objects++;
                taken.add(one, open);
            }
        }
        return taken;
    }

    private void add(Object one, Deque<Object> open) throws IllegalAccessException {
        if (one.getClass().isArray()) {
            int length = Array.getLength(one);
            fields += length;
            for (int i = 0; i < length && one instanceof Object[]; i++) {
                addPart(Array.get(one, i), open);
            }
            return;
        }
        for (Field field : one.getClass().getDeclaredFields()) {
            if (!Modifier.isStatic(field.getModifiers())) {
                fields++;
                field.setAccessible(true);
                if (!field.getType().isPrimitive()) {
                    addPart(field.get(one), open);
                }
            }
        }
    }

    private static void addPart(Object part, Deque<Object> open) {
        if (part != null) {
            open.add(part);
        }
    }
}
