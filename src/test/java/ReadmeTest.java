import java.io.IOException;
import java.lang.reflect.Method;
import java.lang.reflect.Modifier;
import java.nio.file.Files;
import java.nio.file.Path;
import java.util.HashMap;
import java.util.HashSet;
import java.util.Map;
import java.util.Set;
import java.util.regex.Matcher;
import java.util.regex.Pattern;

/** Runs the calls of README.md: each answers what stands behind it, and none of the face is left out. */
public final class ReadmeTest {
    private static final Check C = new Check();
    private static final Pattern BLOCK = Pattern.compile("(?s)```java\n(.*?)```");
    private static final Pattern CALL =
        Pattern.compile("(?:int (\\w+) = )?x\\.(\\w+)\\(([^)]*)\\);\\s*// (-?\\d+)(?::.*)?");
    private static final String NEW_OBJECT = "HouseKeepers x = new HouseKeepers();";

    private final Map<String, Method> face = new HashMap<>();
    private final Map<String, Integer> names = new HashMap<>();
    private final Set<String> called = new HashSet<>();
    private HouseKeepers x;

    public static void main(String[] args) throws IOException, ReflectiveOperationException {
        new ReadmeTest().run(Files.readString(Path.of("README.md")));
        C.finish("ReadmeTest");
    }

    private void run(String page) throws ReflectiveOperationException {
        for (Method method : HouseKeepers.class.getDeclaredMethods()) {
            if (Modifier.isPublic(method.getModifiers())) face.put(method.getName(), method);
        }
        Matcher block = BLOCK.matcher(page);
        while (block.find()) {
            for (String line : block.group(1).split("\n")) runLine(line);
        }
        for (String name : face.keySet()) C.due("README calls " + name, called.contains(name) ? 1 : 0, 1);
        C.due("README tells how to run the tests", page.contains("bash .ci/run") ? 1 : 0, 1);
    }

    private void runLine(String line) throws ReflectiveOperationException {
        if (line.startsWith(NEW_OBJECT)) {
            x = new HouseKeepers();
            return;
        }
        Matcher call = CALL.matcher(line);
        boolean known = call.matches() && face.containsKey(call.group(2));
        C.due("a line of README is a call with its answer: " + line, known ? 1 : 0, 1);
        if (!known) return;
        int got = answer(face.get(call.group(2)), call.group(3));
        called.add(call.group(2));
        if (call.group(1) != null) names.put(call.group(1), got);
        C.due("README: " + line, got, Long.parseLong(call.group(4)));
    }

    private int answer(Method method, String told) throws ReflectiveOperationException {
        Class<?>[] types = method.getParameterTypes();
        String[] words = told.isEmpty() ? new String[0] : told.split(", ");
        Object[] values = new Object[types.length];
        for (int i = 0; i < types.length; i++) values[i] = value(types[i], words[i]);
        return (int) method.invoke(x, values);
    }

    private Object value(Class<?> type, String word) {
        if (type == boolean.class) return Boolean.parseBoolean(word);
        if (type == long.class) return Long.decode(word.replace("L", ""));
        return names.containsKey(word) ? names.get(word) : Integer.decode(word);
    }
}
