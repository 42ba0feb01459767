import java.io.IOException;
import java.lang.reflect.InvocationTargetException;
import java.lang.reflect.Method;
import java.lang.reflect.Modifier;
import java.nio.file.Files;
import java.nio.file.Path;
import java.util.HashMap;
import java.util.Map;
import java.util.regex.Matcher;
import java.util.regex.Pattern;

/** README.md: its example's calls answer as it tells, and its table names every call of the face. */
public final class ReadmeTest {
    private static final String NEW = "HandedVoices x = new HandedVoices();";
    private static final Pattern CALL = Pattern.compile("(?:int (\\w+) = )?x\\.(\\w+)\\((.*?)\\);\\s+// (-?\\d+).*");

    private static final Map<String, Integer> names = new HashMap<>();
    private static final HandedVoices x = new HandedVoices();
    private static int wrong;

    public static void main(String[] args) throws IOException, ReflectiveOperationException {
        String page = Files.readString(Path.of("README.md"));
        int start = page.indexOf("```java\n") + 8;
        String[] example = page.substring(start, page.indexOf("```", start)).split("\n");
        for (String line : example) {
            follow(line);
        }
        for (Method m : HandedVoices.class.getDeclaredMethods()) {
            if (Modifier.isPublic(m.getModifiers()) && !page.contains("`" + m.getName() + "`")) {
                fault("README.md does not name the call " + m.getName());
            }
        }
        System.out.println(wrong == 0 ? example.length + " lines of README.md hold" : wrong + " faults");
        if (wrong != 0) {
            System.exit(1);
        }
    }

    private static void fault(String text) {
        wrong++;
        System.out.println(text);
    }

    private static void follow(String line) throws IllegalAccessException, InvocationTargetException {
        Matcher call = CALL.matcher(line);
        if (!call.matches()) {
            if (!line.equals(NEW)) {
                fault("no call with its answer: " + line);
            }
            return;
        }
        long got = answer(call.group(2), call.group(3).isEmpty() ? new String[0] : call.group(3).split(", "));
        if (got != Long.parseLong(call.group(4))) {
            fault(line + " -- answered " + got);
        }
        if (call.group(1) != null) {
            names.put(call.group(1), (int) got);
        }
    }

    private static long answer(String name, String[] words) throws IllegalAccessException, InvocationTargetException {
        for (Method m : HandedVoices.class.getDeclaredMethods()) {
            if (Modifier.isPublic(m.getModifiers()) && m.getName().equals(name)) {
                Object[] values = new Object[words.length];
                for (int k = 0; k < words.length; k++) {
                    values[k] = m.getParameterTypes()[k] == boolean.class ? (Object) words[k].equals("true")
                        : names.containsKey(words[k]) ? names.get(words[k]) : Integer.decode(words[k]);
                }
                return ((Number) m.invoke(x, values)).longValue();
            }
        }
        throw new IllegalArgumentException(name);
    }
}
