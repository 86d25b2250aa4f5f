import java.io.IOException;
import java.lang.reflect.Method;
import java.nio.file.Files;
import java.nio.file.Path;
import java.util.regex.Matcher;
import java.util.regex.Pattern;

/** README.md: its example answers as it says there, and it names each call of the face. */
public final class ReadmeTest {
    private static final Pattern CALL = Pattern.compile("(?m)^door\\.(\\w+)\\(([^)]*)\\); *// (-?\\d+)\\b");

    public static void main(String[] args) throws IOException, ReflectiveOperationException {
        String page = Files.readString(Path.of("README.md"));
        example(page);
        for (Method m : LeanLatches.class.getDeclaredMethods()) {
            if (java.lang.reflect.Modifier.isPublic(m.getModifiers())) {
                Bench.due("README names " + m.getName(), page.contains("`" + m.getName() + "`") ? 1 : 0, 1);
            }
        }
        Bench.end("ReadmeTest");
    }

    private static void example(String page) throws ReflectiveOperationException {
        LeanLatches door = new LeanLatches();
        int calls = 0;
        for (Matcher m = CALL.matcher(page); m.find(); calls++) {
            String[] told = m.group(2).isEmpty() ? new String[0] : m.group(2).split(", ");
            Class<?>[] types = new Class<?>[told.length];
            Object[] numbers = new Object[told.length];
            for (int i = 0; i < told.length; i++) {
                types[i] = int.class;
                numbers[i] = Integer.decode(told[i]);
            }
            Object answer = LeanLatches.class.getMethod(m.group(1), types).invoke(door, numbers);
            Bench.due(m.group(1) + "(" + m.group(2) + ")", ((Number) answer).longValue(), Long.parseLong(m.group(3)));
        }
        Bench.due("calls of the example, all but the first line of it", calls, rowsOf(page) - 1);
    }

    private static int rowsOf(String page) {
        int from = page.indexOf("```java\n") + 8;
        return page.substring(from, page.indexOf("```", from)).split("\n").length;
    }
}
