import java.io.IOException;
import java.lang.reflect.Method;
import java.nio.file.Files;
import java.nio.file.Path;
import java.util.HashSet;
import java.util.Set;
import java.util.regex.Matcher;
import java.util.regex.Pattern;

/** The examples of README.md: each call there is made, and answers what stands behind it. */
public final class ReadmeTest extends Due {
    private static final Pattern CALL = Pattern.compile("desk\\.(\\w+)\\((.*)\\); +// ([^:]+)(: .*)?");
    private static final Set<String> SHOWN = new HashSet<>();
    private static MapDesk desk = new MapDesk();

    private static long number(Object answer) {
        return answer instanceof Boolean is ? (is ? 1 : 0) : (Integer) answer;
    }

    private static long wanted(String words) throws ReflectiveOperationException {
        if (words.startsWith("MapDesk.")) {
            return MapDesk.class.getField(words.substring("MapDesk.".length())).getInt(null);
        }
        return number(words.equals("true") || words.equals("false") ? (Object) words.equals("true") : Integer.valueOf(words));
    }

    private static Object answer(String name, String[] words) throws ReflectiveOperationException {
        for (Method method : MapDesk.class.getMethods()) {
            if (method.getName().equals(name) && method.getParameterCount() == words.length) {
                Object[] values = new Object[words.length];
                for (int i = 0; i < words.length; i++) {
                    boolean flag = method.getParameterTypes()[i] == boolean.class;
                    values[i] = flag ? (Object) Boolean.valueOf(words[i]) : Integer.valueOf(words[i]);
                }
                SHOWN.add(name);
                return method.invoke(desk, values);
            }
        }
        throw new NoSuchMethodException(name);
    }

    private static void line(String text) throws ReflectiveOperationException {
        if (text.equals("MapDesk desk = new MapDesk();")) {
            desk = new MapDesk();
            return;
        }
        Matcher call = CALL.matcher(text);
        boolean told = call.matches();
        due("README.md tells an answer: " + text, told, true);
        if (told) {
            String[] words = call.group(2).isEmpty() ? new String[0] : call.group(2).split(", ");
            due("README.md: " + text, number(answer(call.group(1), words)), wanted(call.group(3)));
        }
    }

    public static void main(String[] args) throws IOException, ReflectiveOperationException {
        boolean inside = false;
        for (String text : Files.readAllLines(Path.of("README.md"))) {
            if (text.startsWith("```")) {
                inside = text.equals("```java");
            } else if (inside) {
                line(text);
            }
        }
        for (Method method : MapDesk.class.getDeclaredMethods()) {
            boolean open = java.lang.reflect.Modifier.isPublic(method.getModifiers());
            due("README.md shows " + method.getName(), !open || SHOWN.contains(method.getName()), true);
        }
        end();
    }
}
