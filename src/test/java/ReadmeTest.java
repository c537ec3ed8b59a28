import java.lang.reflect.Method;
import java.lang.reflect.Modifier;
import java.nio.charset.StandardCharsets;
import java.nio.file.DirectoryStream;
import java.nio.file.Files;
import java.nio.file.Path;
import java.util.Map;
import java.util.regex.Matcher;
import java.util.regex.Pattern;

/** README.md: its example answers as its comments say; every call and every test is named. */
public final class ReadmeTest {
    private static final Map<String, Long> WORDS = Map.of("NONE", (long) Due.NONE, "BAD", (long) Due.BAD,
        "STATE", (long) Due.STATE, "FULL", (long) Due.FULL);

    public static void main(String[] args) throws Exception {
        String page = Files.readString(Path.of("README.md"), StandardCharsets.UTF_8);
        example(page);
        callsAreNamed(page);
        testsAreNamed(page);
        Due.end("ReadmeTest");
    }

    private static void example(String page) throws Exception {
        Matcher block = Pattern.compile("(?s)```java\n(.*?)```").matcher(page);
        Due.holds("there is an example", block.find());
        String code = block.group(1);
        Matcher text = Pattern.compile("String text = \"([^\"]*)\";").matcher(code);
        Due.holds("it has a text", text.find());
        ChalkCastle x = new ChalkCastle();
        for (int letter : text.group(1).toCharArray()) {
            x.feed(letter);
        }
        Matcher row = Pattern.compile("(?m)^x\\.(\\w+)\\(([^)]*)\\); *// (\\S+?):").matcher(code);
        int rows = 0;
        while (row.find()) {
            rows++;
            String due = row.group(3);
            Due.is(row.group(), made(x, row.group(1), row.group(2)),
                WORDS.containsKey(due) ? WORDS.get(due) : Long.parseLong(due));
        }
        Due.is("each row of the example is tried", rows, code.split("\nx\\.", -1).length - 1);
    }

    private static long made(ChalkCastle x, String name, String told) throws Exception {
        String[] words = told.isEmpty() ? new String[0] : told.split(", ");
        Class<?>[] types = new Class<?>[words.length];
        Object[] numbers = new Object[words.length];
        for (int i = 0; i < words.length; i++) {
            types[i] = int.class;
            numbers[i] = Integer.parseInt(words[i]);
        }
        return ((Number) ChalkCastle.class.getMethod(name, types).invoke(x, numbers)).longValue();
    }

    private static void callsAreNamed(String page) {
        for (Method method : ChalkCastle.class.getDeclaredMethods()) {
            if (Modifier.isPublic(method.getModifiers())) {
                int commas = Math.max(0, method.getParameterCount() - 1);
                Due.holds("named with its numbers: " + method.getName(), Pattern.compile("`" + method.getName()
                    + "\\([^),]*(,[^),]*){" + commas + "}\\)`").matcher(page).find());
            }
        }
    }

    private static void testsAreNamed(String page) throws Exception {
        try (DirectoryStream<Path> tests = Files.newDirectoryStream(Path.of("src/test/java"), "*Test.java")) {
            for (Path test : tests) {
                String name = test.getFileName().toString().replace(".java", "");
                Due.holds("named: " + name, page.contains("| " + name + " |"));
            }
        }
    }
}
