import java.io.File;
import java.io.IOException;
import java.lang.reflect.Field;
import java.lang.reflect.Method;
import java.lang.reflect.Modifier;
import java.nio.file.Files;
import java.nio.file.Path;
import java.util.regex.Matcher;
import java.util.regex.Pattern;

/** README.md: its example answers as it says, and it leaves out no call, no constant and no test. */
final class ReadmeTest {
    private static final Due DUE = new Due("ReadmeTest");
    private static final Pattern WRITTEN = Pattern.compile("for \\(char letter : \"([^\"]*)\"\\.toCharArray\\(\\)\\) .*");
    private static final Pattern ASKED = Pattern.compile("tent\\.(\\w+)\\((.*)\\); +// (-?\\d+): .*");

    public static void main(String[] args) throws ReflectiveOperationException, IOException {
        String page = Files.readString(Path.of("README.md"));
        example(page);
        namesEveryCall(page);
        namesEveryTest(page);
        DUE.end();
    }

    private static void example(String page) throws ReflectiveOperationException {
        String begin = "```java\n";
        int from = page.indexOf(begin);
        int to = page.indexOf("```", from + begin.length());
        DUE.due("README.md has an example", from >= 0 && to > from ? 1 : 0, 1);
        if (from < 0 || to < from) return;
        String[] lines = page.substring(from + begin.length(), to).split("\n");
        DUE.due("the example begins with a new object", lines[0].equals("LostTent tent = new LostTent();") ? 1 : 0, 1);
        LostTent tent = new LostTent();
        for (int i = 1; i < lines.length; i++) run(tent, lines[i]);
    }

    private static void run(LostTent tent, String line) throws ReflectiveOperationException {
        Matcher written = WRITTEN.matcher(line);
        Matcher asked = ASKED.matcher(line);
        if (written.matches()) Due.write(tent, written.group(1));
        else if (asked.matches()) DUE.due(line, call(tent, asked.group(1), asked.group(2)), Long.parseLong(asked.group(3)));
        else DUE.due("a line of the example that this test can't read: " + line, 0, 1);
    }

    private static long call(LostTent tent, String name, String told) throws ReflectiveOperationException {
        String[] words = told.isEmpty() ? new String[0] : told.split(", ");
        Object[] values = new Object[words.length];
        Class<?>[] types = new Class<?>[words.length];
        for (int i = 0; i < words.length; i++) {
            boolean isTruth = words[i].equals("true") || words[i].equals("false");
            types[i] = isTruth ? boolean.class : int.class;
            if (isTruth) values[i] = Boolean.valueOf(words[i]);
            else values[i] = Integer.valueOf(words[i]);
        }
        return ((Number) LostTent.class.getMethod(name, types).invoke(tent, values)).longValue();
    }

    private static void namesEveryCall(String page) throws IllegalAccessException {
        for (Method method : LostTent.class.getDeclaredMethods()) {
            if (!Modifier.isPublic(method.getModifiers())) continue;
            Matcher row = Pattern.compile("\n\\| `" + method.getName() + "\\(([^)]*)\\)` \\|").matcher(page);
            boolean told = row.find();
            DUE.due("README.md has a row for " + method, told ? 1 : 0, 1);
            if (!told) continue;
            int values = row.group(1).isEmpty() ? 0 : row.group(1).split(", ").length;
            DUE.due("how many values it tells for " + method, values, method.getParameterCount());
        }
        for (Field field : LostTent.class.getDeclaredFields()) {
            if (!Modifier.isPublic(field.getModifiers())) continue;
            String told = "`" + field.getName() + "` (" + field.getInt(null);
            DUE.due("README.md tells " + told, page.contains(told) ? 1 : 0, 1);
        }
    }

    private static void namesEveryTest(String page) {
        String[] files = new File("src/test/java").list();
        DUE.due("there are tests", files != null && files.length > 0 ? 1 : 0, 1);
        if (files == null) return;
        for (String file : files) {
            if (!file.endsWith("Test.java")) continue;
            String name = "`" + file.replace(".java", "") + "`";
            DUE.due("README.md names " + name, page.contains(name) ? 1 : 0, 1);
        }
    }
}
