import java.io.IOException;
import java.lang.reflect.Method;
import java.lang.reflect.Modifier;
import java.nio.file.DirectoryStream;
import java.nio.file.Files;
import java.nio.file.Path;
import java.util.regex.Matcher;
import java.util.regex.Pattern;

/** README.md says how to use the class and how to run its tests, as they stand. */
public final class ReadmeTest {
    private static final Pattern CALL = Pattern.compile("x\\.(\\w+)\\(([-\\d, ]*)\\);\\s*// (-?\\d+).*");
    private static final Pattern FEED = Pattern.compile("for \\(char c : \"(\\w+)\"\\.toCharArray\\(\\)\\) \\{ x\\.feed\\(c\\); \\}");

    public static void main(String[] args) throws IOException, ReflectiveOperationException {
        String text = Files.readString(Path.of("README.md"));
        example(text.substring(text.indexOf("```java\n") + 8, text.indexOf("\n```\n")));
        everyCallIsNamed(text);
        everyTestIsNamed(text);
        Due.end();
    }

    /** Each line of the example is an object made, a text fed, a call with its answer behind it, a comment, or empty. */
    private static void example(String lines) throws ReflectiveOperationException {
        SurfaceSums x = null;
        int calls = 0;
        for (String line : lines.split("\n")) {
            Matcher call = CALL.matcher(line);
            Matcher feed = FEED.matcher(line);
            if (line.equals("SurfaceSums x = new SurfaceSums();")) {
                x = new SurfaceSums();
            } else if (feed.matches()) {
                Due.feed(x, feed.group(1));
            } else if (call.matches()) {
                Due.is("README: " + line, answer(x, call.group(1), call.group(2)), Long.parseLong(call.group(3)));
                calls++;
            } else {
                Due.is("README, not read: " + line, line.isEmpty() || line.startsWith("// ") ? 1 : 0, 1);
            }
        }
        Due.is("README: there are calls", calls > 20 ? 1 : 0, 1);
    }

    private static long answer(SurfaceSums x, String name, String told) throws ReflectiveOperationException {
        String[] words = told.isEmpty() ? new String[0] : told.split(", ");
        Object[] ints = new Object[words.length];
        Class<?>[] types = new Class<?>[words.length];
        for (int i = 0; i < words.length; i++) {
            ints[i] = Integer.valueOf(words[i]);
            types[i] = int.class;
        }
        return ((Number) SurfaceSums.class.getMethod(name, types).invoke(x, ints)).longValue();
    }

    private static void everyCallIsNamed(String text) {
        for (Method m : SurfaceSums.class.getDeclaredMethods()) {
            if (Modifier.isPublic(m.getModifiers())) {
                Due.is("README names " + m.getName(), text.contains("`" + m.getName() + "`") ? 1 : 0, 1);
            }
        }
    }

    private static void everyTestIsNamed(String text) throws IOException {
        try (DirectoryStream<Path> tests = Files.newDirectoryStream(Path.of("src/test/java"), "*Test.java")) {
            for (Path test : tests) {
                String name = test.getFileName().toString().replace(".java", "");
                Due.is("README names " + name, text.contains("`" + name + "`") ? 1 : 0, 1);
            }
        }
    }
}
