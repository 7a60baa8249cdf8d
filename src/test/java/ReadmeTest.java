import java.io.IOException;
import java.lang.reflect.InvocationTargetException;
import java.lang.reflect.Method;
import java.nio.file.Files;
import java.nio.file.Path;
import java.util.regex.Matcher;
import java.util.regex.Pattern;

/** README.md as it stands: its example answers what stands behind each call, and it names every call and every test. */
public final class ReadmeTest {
    private static final Pattern CALL = Pattern.compile("x\\.(\\w+)\\(([^)]*)\\);\\s*// (-?\\d+)\\b.*");
    private static final Pattern TOLD = Pattern.compile(".*\"([^\"]+)\"\\.toCharArray\\(\\).*");

    public static void main(String[] args) throws IOException, IllegalAccessException, InvocationTargetException {
        String readme = Files.readString(Path.of("README.md"));
        theExampleIsSo(readme);
        for (Method method : WallReadings.class.getDeclaredMethods()) {
            if (java.lang.reflect.Modifier.isPublic(method.getModifiers())) {
                Due.is("README names " + method.getName(), readme.contains("`" + method.getName() + "("), true);
            }
        }
        try (var tests = Files.newDirectoryStream(Path.of("src/test/java"), "*Test.java")) {
            for (Path test : tests) {
                String name = test.getFileName().toString().replace(".java", "");
                Due.is("README names " + name, readme.contains("`" + name + "`"), true);
            }
        }
        Due.end("ReadmeTest");
    }

    private static void theExampleIsSo(String readme) throws IllegalAccessException, InvocationTargetException {
        WallReadings x = new WallReadings();
        int calls = 0;
        for (String line : readme.substring(readme.indexOf("```java")).split("\n")) {
            Matcher told = TOLD.matcher(line);
            if (told.matches()) {
                Scenes.put(x, told.group(1));
            }
            Matcher call = CALL.matcher(line);
            if (call.matches()) {
                calls++;
                Due.is("README: " + line, answer(x, call.group(1), call.group(2)), Integer.parseInt(call.group(3)));
            }
        }
        Due.is("calls of README's example", calls > 8, true);
    }

    private static int answer(WallReadings x, String name, String list) throws IllegalAccessException, InvocationTargetException {
        String[] parts = list.isEmpty() ? new String[0] : list.split(", ");
        Object[] numbers = new Object[parts.length];
        for (int i = 0; i < parts.length; i++) {
            numbers[i] = Integer.parseInt(parts[i]);
        }
        for (Method method : WallReadings.class.getMethods()) {
            if (method.getName().equals(name)) {
                return (Integer) method.invoke(x, numbers);
            }
        }
        return Integer.MIN_VALUE;
    }
}
