import java.lang.reflect.Method;
import java.nio.file.Files;
import java.nio.file.Path;
import java.util.Arrays;
import java.util.regex.Matcher;
import java.util.regex.Pattern;

/** README.md's examples answer what README.md says: each call there has its answer first in the comment behind it. */
public final class ReadmeTest extends Due {
    private static final Pattern CALL = Pattern.compile("x\\.(\\w+)\\((.*?)\\);\\s*// (-?\\d+)\\b.*");

    private static WordOnPost x;

    public static void main(String[] args) throws Exception {
        promise = "README";
        boolean code = false;
        int calls = 0;
        for (String line : Files.readAllLines(Path.of("README.md"))) {
            if (line.startsWith("```")) {
                code = line.equals("```java");
            } else if (code && line.contains("new WordOnPost()")) {
                x = new WordOnPost();
            } else if (code && !line.isBlank()) {
                answer(line);
                calls++;
            }
        }
        due("some calls are told", calls > 20 ? 1 : 0, 1);
        end("README.md");
    }

    private static void answer(String line) throws Exception {
        Matcher call = CALL.matcher(line);
        if (x == null || !call.matches()) {
            due("a call with its answer: " + line, 0, 1);
            return;
        }
        String[] told = call.group(2).isEmpty() ? new String[0] : call.group(2).split(", ");
        Method method = Arrays.stream(WordOnPost.class.getMethods())
                .filter(m -> m.getName().equals(call.group(1)) && m.getParameterCount() == told.length)
                .findFirst().orElseThrow();
        Object[] values = new Object[told.length];
        for (int i = 0; i < told.length; i++) {
            values[i] = value(told[i], method.getParameterTypes()[i]);
        }
        due(line.strip(), ((Number) method.invoke(x, values)).longValue(), Long.parseLong(call.group(3)));
    }

    private static Object value(String told, Class<?> type) {
        if (type == boolean.class) {
            return Boolean.valueOf(told);
        }
        if (told.equals("WordOnPost.NONE")) {
            return WordOnPost.NONE;
        }
        long number = Long.decode(told.replace("L", ""));
        return type == long.class ? (Object) number : (Object) (int) number;
    }
}
