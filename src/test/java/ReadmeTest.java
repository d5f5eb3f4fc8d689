import java.io.File;
import java.io.IOException;
import java.lang.reflect.Method;
import java.lang.reflect.Modifier;
import java.nio.file.Files;
import java.nio.file.Path;
import java.util.Arrays;
import java.util.regex.Matcher;
import java.util.regex.Pattern;

/** README.md: the calls of its example answer what stands beside them, and it leaves nothing out. */
public final class ReadmeTest {
    private static final Pattern CALL =
        Pattern.compile("x\\.(\\w+)\\(([^)]*)\\);\\s*(?:// (-?\\w+): .+)?");

    public static void main(String[] args) throws IOException, ReflectiveOperationException {
        String readme = Files.readString(Path.of("README.md"));
        tryExample(readme);
        for (Method method : ListHeaps.class.getDeclaredMethods()) {
            if (Modifier.isPublic(method.getModifiers())) {
                Due.is("README.md tells " + method.getName(),
                    readme.contains("`" + method.getName() + "("), true);
            }
        }
        for (File file : new File("src/test/java").listFiles()) {
            String name = file.getName().replace(".java", "");
            Due.is("README.md tells " + name, readme.contains("`" + name + "`"), true);
        }
        Due.is("README.md tells how to run the tests", readme.contains("\n.ci/run\n"), true);
        Due.end();
    }

    private static void tryExample(String readme) throws ReflectiveOperationException {
        String[] rows = readme.split("```java\n")[1].split("```")[0].split("\n");
        Due.is("first row", rows[0], "ListHeaps x = new ListHeaps();");
        ListHeaps x = new ListHeaps();
        for (int i = 1; i < rows.length; i++) {
            Matcher call = CALL.matcher(rows[i]);
            Due.is("a call: " + rows[i], call.matches(), true);
            Due.is(rows[i], String.valueOf(answer(x, call.group(1), call.group(2))),
                String.valueOf(call.group(3)));
        }
    }

    private static Object answer(ListHeaps x, String name, String arguments)
            throws ReflectiveOperationException {
        Object[] numbers = Arrays.stream(arguments.split(", *")).filter(word -> !word.isEmpty())
            .map(Integer::valueOf).toArray();
        Class<?>[] types = new Class<?>[numbers.length];
        Arrays.fill(types, int.class);
        return ListHeaps.class.getMethod(name, types).invoke(x, numbers);
    }
}
