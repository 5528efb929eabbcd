import java.io.IOException;
import java.lang.reflect.Method;
import java.lang.reflect.Modifier;
import java.nio.file.Files;
import java.nio.file.Path;
import java.util.LinkedHashMap;
import java.util.Map;
import java.util.regex.Matcher;
import java.util.regex.Pattern;

/** What README.md says of the class: each call in its examples answers as told there, and no call goes unnamed. */
public final class ReadmeTest {
    private static final Pattern BLOCK = Pattern.compile("(?s)```java\n(.*?)```");
    private static final Pattern CALL = Pattern.compile("x\\.(\\w+)\\(([^)]*)\\); +// (-?\\d+): .+");
    private static final String NEW = "WhoOpensOne x = new WhoOpensOne();";
    private static final int LEAST_CALLS = 20;

    private static int wrong = 0;
    private static int calls = 0;

    private ReadmeTest() {
    }

    private static void fault(String what) {
        wrong++;
        System.out.println(what);
    }

    public static void main(String[] args) throws IOException, ReflectiveOperationException {
        String readme = Files.readString(Path.of("README.md"));
        Map<String, Method> face = face();
        Matcher block = BLOCK.matcher(readme);
        while (block.find()) {
            play(block.group(1), face);
        }
        if (calls < LEAST_CALLS) {
            fault("README.md has only " + calls + " calls in its examples");
        }
        for (String name : face.keySet()) {
            if (!readme.contains("`" + name + "`")) {
                fault("README.md doesn't name " + name);
            }
        }
        if (!readme.contains(".ci/run")) {
            fault("README.md doesn't say how the tests are run");
        }
        System.out.println(wrong == 0 ? "README.md tells what is so" : wrong + " lines of README.md are not so");
        if (wrong != 0) {
            System.exit(1);
        }
    }

    private static Map<String, Method> face() {
        Map<String, Method> face = new LinkedHashMap<>();
        for (Method m : WhoOpensOne.class.getDeclaredMethods()) {
            if (Modifier.isPublic(m.getModifiers())) {
                face.put(m.getName(), m);
            }
        }
        return face;
    }

    private static void play(String lines, Map<String, Method> face) throws ReflectiveOperationException {
        WhoOpensOne x = null;
        for (String line : lines.split("\n")) {
            Matcher call = CALL.matcher(line);
            if (line.equals(NEW)) {
                x = new WhoOpensOne();
            } else if (x == null || !call.matches() || !face.containsKey(call.group(1))) {
                fault("not a call with its answer: " + line);
            } else {
                calls++;
                Method method = face.get(call.group(1));
                long got = ((Number) method.invoke(x, arguments(method, call.group(2)))).longValue();
                if (got != Long.parseLong(call.group(3))) {
                    fault(line + " answered " + got);
                }
            }
        }
    }

    private static Object[] arguments(Method method, String text) {
        Class<?>[] types = method.getParameterTypes();
        String[] parts = text.isEmpty() ? new String[0] : text.split(", ");
        Object[] arguments = new Object[parts.length];
        for (int i = 0; i < parts.length; i++) {
            if (types[i] == boolean.class) {
                arguments[i] = Boolean.valueOf(parts[i]);
            } else if (types[i] == long.class) {
                arguments[i] = Long.decode(parts[i]);
            } else {
                arguments[i] = Integer.decode(parts[i]);
            }
        }
        return arguments;
    }
}
