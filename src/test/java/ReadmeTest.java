import java.io.IOException;
import java.lang.reflect.Method;
import java.nio.file.Files;
import java.nio.file.Path;
import java.util.regex.Matcher;
import java.util.regex.Pattern;

/** The examples of README.md: each call of an object x answers the number that stands behind it. */
public final class ReadmeTest extends Due {
    private static final Pattern CALL = Pattern.compile("x\\.(\\w+)\\((.*)\\);\\s*// (-?\\d+).*");
    private static final String NEW_OBJECT = "FastBlocks x = new FastBlocks();";

    public static void main(String[] args) throws IOException, ReflectiveOperationException {
        FastBlocks x = null;
        int examples = 0;
        boolean inside = false;
        for (String line : Files.readAllLines(Path.of("README.md"))) {
            Matcher call = CALL.matcher(line);
            if (line.startsWith("```")) {
                inside = line.equals("```java");
            } else if (inside && line.equals(NEW_OBJECT)) {
                x = new FastBlocks();
                examples++;
            } else if (inside) {
                boolean told = call.matches();
                due("the line is a call with its answer: " + line, told ? 1 : 0, 1);
                if (told) {
                    due(line, answer(x, call.group(1), call.group(2)), Long.parseLong(call.group(3)));
                }
            }
        }
        due("examples", examples, 3);
        end();
    }

    private static long answer(FastBlocks x, String name, String listed) throws ReflectiveOperationException {
        String[] texts = listed.isEmpty() ? new String[0] : listed.split(", ");
        Object[] numbers = new Object[texts.length];
        Class<?>[] types = new Class<?>[texts.length];
        for (int i = 0; i < texts.length; i++) {
            numbers[i] = Integer.decode(texts[i]);
            types[i] = int.class;
        }
        Method method = FastBlocks.class.getMethod(name, types);
        return ((Number) method.invoke(x, numbers)).longValue();
    }
}
