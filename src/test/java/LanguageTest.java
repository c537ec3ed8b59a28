import java.lang.reflect.Constructor;
import java.lang.reflect.Field;
import java.lang.reflect.Method;
import java.lang.reflect.Modifier;
import java.nio.charset.StandardCharsets;
import java.nio.file.Files;
import java.nio.file.Path;
import java.util.Arrays;
import java.util.TreeSet;
import java.util.regex.Matcher;
import java.util.regex.Pattern;

/** The face of the document, and what LANGUAGE.md rules out, as far as it can be seen by words. */
public final class LanguageTest {
    private static final String[] FACE = {
        "int row(int,int,int)", "int set(int,int,int)", "int copy(int,int,int,int,int)", "int drop(int)",
        "int feed(int)", "int castle()", "int fault()", "int undo()",
        "int write(int,int,int)", "int rub(int,int)", "int rain()", "int days(int)", "int block(int,int)",
        "int clerk(int,int)", "int takes(int,int)", "int stand(int)",
        "int wouldFall(int)", "int left(int)", "int leastFallen(int,int,int)", "int must()",
        "int writings(int,int,int,int)", "int from(int,int,int)", "int who(int,int,int,int)", "int layer(int)",
        "int longest(int,int)", "long rains(int,int,int)", "int share(int,int)", "int drawn(int,int,int)",
        "int image(int)", "int restore(int)",
        "int kind(int)", "int as(int,int)", "int ask(int,int)", "int trace(int)", "int count(int)", "int status()",
    };

    public static void main(String[] args) throws Exception {
        face();
        nested();
        words();
        methods();
        Due.end("LanguageTest");
    }

    private static String shown(Method method) {
        StringBuilder text = new StringBuilder();
        for (Class<?> type : method.getParameterTypes()) {
            text.append(text.length() == 0 ? "" : ",").append(type.getSimpleName());
        }
        return method.getReturnType().getSimpleName() + " " + method.getName() + "(" + text + ")";
    }

    private static void face() {
        Class<?> type = ChalkCastle.class;
        Due.holds("public and final", Modifier.isPublic(type.getModifiers()) && Modifier.isFinal(type.getModifiers()));
        TreeSet<String> seen = new TreeSet<>();
        TreeSet<String> names = new TreeSet<>();
        for (Method method : type.getDeclaredMethods()) {
            if (!Modifier.isPrivate(method.getModifiers())) {
                Due.holds("public: " + method, Modifier.isPublic(method.getModifiers()));
                seen.add(shown(method));
                names.add(method.getName());
            }
        }
        Due.holds("the methods of the face: " + seen, seen.equals(new TreeSet<>(Arrays.asList(FACE))));
        for (Method method : type.getDeclaredMethods()) {
            if (Modifier.isPrivate(method.getModifiers())) {
                Due.holds("a name of its own: " + method, !names.contains(method.getName()));
            }
        }
        TreeSet<String> constants = new TreeSet<>();
        for (Field field : type.getDeclaredFields()) {
            if (!Modifier.isPrivate(field.getModifiers())) {
                constants.add(field.getName());
            }
        }
        Due.holds("the constants", constants.equals(new TreeSet<>(Arrays.asList("NONE", "BAD", "STATE", "FULL"))));
        Constructor<?>[] constructors = type.getDeclaredConstructors();
        Due.holds("one constructor", constructors.length == 1
            && Modifier.isPublic(constructors[0].getModifiers()) && constructors[0].getParameterCount() == 0);
        Due.is("NONE", ChalkCastle.NONE, -1000000);
        Due.is("BAD", ChalkCastle.BAD, -1000001);
        Due.is("STATE", ChalkCastle.STATE, -1000002);
        Due.is("FULL", ChalkCastle.FULL, -1000003);
    }

    private static void nested() {
        Class<?>[] inside = ChalkCastle.class.getDeclaredClasses();
        Due.holds("twelve classes at most", inside.length <= 12);
        ofClass(ChalkCastle.class);
        for (Class<?> type : inside) {
            int modifiers = type.getModifiers();
            Due.holds("static: " + type, Modifier.isStatic(modifiers));
            Due.holds("not public: " + type, !Modifier.isPublic(modifiers) && !Modifier.isProtected(modifiers));
            ofClass(type);
        }
    }

    private static void ofClass(Class<?> type) {
        int fields = 0;
        for (Field field : type.getDeclaredFields()) {
            boolean isStatic = Modifier.isStatic(field.getModifiers());
            fields += isStatic ? 0 : 1;
            Due.holds("static and final: " + field, !isStatic || Modifier.isFinal(field.getModifiers()));
        }
        Due.holds("twenty fields at most: " + type, fields <= 20);
        for (Method method : type.getDeclaredMethods()) {
            Due.holds("seven parameters at most: " + method, method.getParameterCount() <= 7);
            Due.holds("no method of Object: " + method,
                !Arrays.asList("equals", "hashCode", "toString", "finalize").contains(method.getName()));
        }
    }

    private static String source() throws Exception {
        return Files.readString(Path.of("src/main/java/ChalkCastle.java"), StandardCharsets.UTF_8);
    }

    private static void words() throws Exception {
        String source = source();
        for (int i = 0; i < source.length(); i++) {
            if (source.charAt(i) > 126) {
                Due.is("a sign above 126 at " + i, source.charAt(i), 32);
            }
        }
        String code = source.replaceAll("(?s)/\\*.*?\\*/", " ").replaceAll("//[^\n]*", " ");
        String[] ruledOut = {"\\bthrows?\\b", "\\btry\\b", "\\bcatch\\b", "\\bsynchronized\\b", "\\bassert\\b",
            "->", "::", "\\bimport\\b", "\\bpackage\\b", "\\bwhile\\s*\\(\\s*true", "Exact\\b", "\\bObject\\b",
            "\\bSystem\\.(?!arraycopy\\b)", "\\bthread\\b", "\\bvar\\b", "\\bstatic\\s*\\{", "\\bimplements\\b",
            "\"", "@"};
        for (String word : ruledOut) {
            Matcher matcher = Pattern.compile(word).matcher(code);
            Due.holds("ruled out: " + word, !matcher.find());
        }
    }

    private static void methods() throws Exception {
        String[] lines = source().split("\n");
        int start = -1;
        String end = "";
        for (int i = 0; i < lines.length; i++) {
            if (start < 0 && lines[i].matches("( {4}| {8})\\S.*\\) \\{")) {
                start = i;
                end = lines[i].replaceAll("\\S.*", "") + "}";
            } else if (start >= 0 && lines[i].equals(end)) {
                Due.holds("sixty lines at most: " + lines[start].trim(), i - start < 60);
                start = -1;
            }
        }
    }
}
