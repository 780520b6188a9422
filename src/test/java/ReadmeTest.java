import java.io.IOException;
import java.lang.reflect.InvocationTargetException;
import java.lang.reflect.Method;
import java.lang.reflect.Modifier;
import java.nio.file.Files;
import java.nio.file.Path;
import java.util.HashMap;
import java.util.Map;
import java.util.regex.Matcher;
import java.util.regex.Pattern;

/** What README.md tells of the class holds: its examples, line by line on one object, and its calls. */
public final class ReadmeTest {
    private static final Pattern CALL = Pattern.compile("(?m)^x\\.(\\w+)\\(([^)]*)\\);\\s*// (-?\\d+)");

    private ReadmeTest() {
    }

    public static void main(String[] args) throws IOException, IllegalAccessException, InvocationTargetException {
        String readme = Files.readString(Path.of(args[2]));
        Map<String, Method> calls = new HashMap<>();
        for (Method method : TracePeaks.class.getDeclaredMethods()) {
            if (Modifier.isPublic(method.getModifiers())) {
                calls.put(method.getName(), method);
                Checks.due(method.getName() + " is named", readme.contains("`" + method.getName() + "`"), true);
            }
        }
        TracePeaks x = new TracePeaks();
        int examples = 0;
        Matcher line = CALL.matcher(readme);
        while (line.find()) {
            Object answer = calls.get(line.group(1)).invoke(x, numbers(line.group(2)));
            Checks.due("README: " + line.group(), (Integer) answer, Integer.parseInt(line.group(3)));
            examples++;
        }
        Checks.due("README has examples, each with its answer", examples > 0
                && examples == readme.lines().filter(told -> told.startsWith("x.")).count(), true);
        Checks.close("ReadmeTest");
    }

    private static Object[] numbers(String told) {
        String[] parts = told.isEmpty() ? new String[0] : told.split(", ");
        Object[] numbers = new Object[parts.length];
        for (int i = 0; i < parts.length; i++) {
            numbers[i] = Long.decode(parts[i]).intValue();
        }
        return numbers;
    }
}
