import java.lang.reflect.Method;
import java.lang.reflect.Modifier;
import java.nio.file.Files;
import java.nio.file.Path;
import java.util.HashMap;
import java.util.Map;
import java.util.regex.Matcher;
import java.util.regex.Pattern;

/** README.md tells every call, and each line of its examples answers the number that stands behind it. */
public final class ReadmeTest {
    private static final Pattern LINE = Pattern.compile("(?:int (\\w+) = )?court\\.(\\w+)\\((.*)\\);\\s+// (-?\\d+)\\b.*");

    private static final Map<String, Method> FACE = new HashMap<>();
    private static final Map<String, Object> KNOWN = new HashMap<>(Map.of("true", true, "false", false));
    private static ChanceCourt court;
    private static int examples = 0;

    public static void main(String[] args) throws Exception {
        String readme = Files.readString(Path.of("README.md"));
        for (Method m : ChanceCourt.class.getDeclaredMethods()) {
            if (Modifier.isPublic(m.getModifiers())) {
                FACE.put(m.getName(), m);
                Due.isTrue("README.md tells " + m.getName(), readme.contains("`" + m.getName() + "`"));
            }
        }
        boolean example = false;
        for (String line : readme.split("\n")) {
            if (line.startsWith("```")) {
                example = line.equals("```java");
            } else if (example) {
                follow(line);
            }
        }
        Due.isTrue("there are examples", examples > 20);
        Due.end();
    }

    private static void follow(String line) throws Exception {
        if (line.equals("ChanceCourt court = new ChanceCourt();")) {
            court = new ChanceCourt();
            return;
        }
        Matcher m = LINE.matcher(line);
        Due.isTrue("a call with its answer: " + line, m.matches() && FACE.containsKey(m.group(2)));
        String[] texts = m.group(3).isEmpty() ? new String[0] : m.group(3).split(", ");
        Object[] arguments = new Object[texts.length];
        for (int i = 0; i < texts.length; i++) {
            arguments[i] = argument(texts[i]);
        }
        long answer = ((Number) FACE.get(m.group(2)).invoke(court, arguments)).longValue();
        Due.is(line, answer, Long.parseLong(m.group(4)));
        if (m.group(1) != null) {
            KNOWN.put(m.group(1), (int) answer);
        }
        examples++;
    }

    private static Object argument(String text) {
        if (text.startsWith("1 << ")) {
            return 1 << (int) argument(text.substring(5));
        }
        return KNOWN.containsKey(text) ? KNOWN.get(text) : Integer.valueOf(text);
    }
}
