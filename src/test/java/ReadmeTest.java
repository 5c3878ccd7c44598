import java.io.IOException;
import java.lang.reflect.Method;
import java.lang.reflect.Modifier;
import java.nio.file.Files;
import java.nio.file.Path;
import java.util.HashMap;
import java.util.List;
import java.util.Map;
import java.util.regex.Matcher;
import java.util.regex.Pattern;

/** Does the run that README.md shows, line by line, and looks that each call answers what stands behind it. */
public final class ReadmeTest extends Dues {
    private static final int METHODS = 45;
    private static final Pattern BLOCK = Pattern.compile("```java\n(.*?)```", Pattern.DOTALL);
    private static final Pattern CALL =
        Pattern.compile("(?:int (\\w+) = )?x\\.(\\w+)\\((.*)\\); *// (-?\\d+|true|false)(?::.*)?");

    private final CountTreaty x = new CountTreaty();
    private final Map<String, Integer> names = new HashMap<>();

    private static Method method(String name) {
        for (Method m : CountTreaty.class.getMethods()) if (m.getName().equals(name)) return m;
        throw new IllegalArgumentException("no such call: " + name);
    }

    private Object argument(String word, Class<?> type) {
        if (type == boolean.class) return Boolean.valueOf(word);
        return names.containsKey(word) ? names.get(word) : Integer.decode(word);
    }

    private long answer(String name, String words) throws ReflectiveOperationException {
        Method m = method(name);
        String[] parts = words.isBlank() ? new String[0] : words.split(", *");
        Object[] arguments = new Object[parts.length];
        for (int i = 0; i < parts.length; i++) arguments[i] = argument(parts[i], m.getParameterTypes()[i]);
        return number(m.invoke(x, arguments).toString());
    }

    private static long number(String answer) {
        return answer.equals("true") ? 1 : answer.equals("false") ? 0 : Long.parseLong(answer);
    }

    private void line(String line) throws ReflectiveOperationException {
        Matcher call = CALL.matcher(line);
        if (!call.matches()) {
            due("a line that can't be read: " + line, 0, 1);
            return;
        }
        long got = answer(call.group(2), call.group(3));
        due(line, got, number(call.group(4)));
        if (call.group(1) != null) names.put(call.group(1), (int) got);
    }

    /** Each call of the face is named somewhere in the README. */
    private static void namesEachCall(String readme) {
        List<String> words = List.of(readme.split("\\W+"));
        for (Method m : CountTreaty.class.getDeclaredMethods()) {
            if (Modifier.isPublic(m.getModifiers())) due(m.getName(), words.contains(m.getName()) ? 1 : 0, 1);
        }
    }

    public static void main(String[] args) throws IOException, ReflectiveOperationException {
        title = "README.md";
        String readme = Files.readString(Path.of("README.md"));
        namesEachCall(readme);
        ReadmeTest run = new ReadmeTest();
        Matcher block = BLOCK.matcher(readme);
        while (block.find()) {
            for (String line : block.group(1).split("\n")) {
                if (!line.equals("CountTreaty x = new CountTreaty();")) run.line(line);
            }
        }
        close("README.md", dues > METHODS);
    }
}
