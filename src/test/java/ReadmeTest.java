import java.io.File;
import java.io.IOException;
import java.lang.reflect.InvocationTargetException;
import java.lang.reflect.Method;
import java.lang.reflect.Modifier;
import java.nio.file.Files;
import java.nio.file.Path;
import java.util.regex.Matcher;
import java.util.regex.Pattern;

/** README.md's examples answer as they say; it names every call and every test. Runs in the project's folder. */
public final class ReadmeTest {
    private static final Pattern ANSWERED = Pattern.compile("x\\.(\\w+)\\(([-\\d, ]*)\\);\\s+// .*: (-?\\d+)");
    private static final Pattern TEXT = Pattern.compile("String text = \"([^\"]*)\";");
    private static MoreThanSheHas x = new MoreThanSheHas();
    private static String text = "";

    public static void main(String[] args) throws IOException, ReflectiveOperationException {
        String page = Files.readString(Path.of("README.md"));
        examples(page);
        for (Method m : MoreThanSheHas.class.getDeclaredMethods()) {
            if (Modifier.isPublic(m.getModifiers())) {
                named(page, Pattern.compile("`" + m.getName() + "`|x\\." + m.getName() + "\\("));
            }
        }
        File[] tests = new File("src/test/java").listFiles((folder, name) -> name.endsWith("Test.java"));
        for (File test : tests) {
            named(page, Pattern.compile("\\| `" + test.getName().replace(".java", "") + "` \\|"));
        }
        Check.end("ReadmeTest");
    }

    private static void named(String page, Pattern name) {
        Check.due(name + " stands in README.md", name.matcher(page).find() ? 1 : 0, 1);
    }

    private static void examples(String page) throws ReflectiveOperationException {
        Matcher blocks = Pattern.compile("(?s)```java\n(.*?)```").matcher(page);
        int found = 0;
        while (blocks.find()) {
            found++;
            for (String line : blocks.group(1).split("\n")) {
                follow(line.trim());
            }
        }
        Check.due("README.md has examples", found > 0 ? 1 : 0, 1);
    }

    private static void follow(String line) throws ReflectiveOperationException {
        Matcher call = ANSWERED.matcher(line);
        Matcher told = TEXT.matcher(line);
        if (call.matches()) {
            Check.due("README.md: " + line, answer(call.group(1), call.group(2)), Long.parseLong(call.group(3)));
        } else if (told.matches()) {
            text = told.group(1);
        } else if (line.equals("MoreThanSheHas x = new MoreThanSheHas();")) {
            x = new MoreThanSheHas();
        } else if (line.equals("x.row(0, 0, text.length());")) {
            Check.due(line, x.row(0, 0, text.length()), 0);
        } else if (line.equals("x.put(0, i, text.charAt(i));")) {
            for (int i = 0; i < text.length(); i++) {
                Check.due(line, x.put(0, i, text.charAt(i)), 0);
            }
        } else {
            boolean loop = line.equals("for (int i = 0; i < text.length(); i++) {") || line.equals("}");
            Check.due("README.md, a line that is not tried: " + line, loop ? 0 : 1, 0);
        }
    }

    private static long answer(String name, String arguments) throws IllegalAccessException, InvocationTargetException {
        String[] parts = arguments.isEmpty() ? new String[0] : arguments.split(", ");
        Object[] values = new Object[parts.length];
        for (int i = 0; i < parts.length; i++) {
            values[i] = Integer.parseInt(parts[i]);
        }
        for (Method m : MoreThanSheHas.class.getDeclaredMethods()) {
            if (Modifier.isPublic(m.getModifiers()) && m.getName().equals(name)) {
                return ((Number) m.invoke(x, values)).longValue();
            }
        }
        throw new IllegalArgumentException("no call of the name " + name);
    }
}
