import java.lang.reflect.Method;
import java.lang.reflect.Modifier;
import java.nio.file.Files;
import java.nio.file.Path;
import java.util.HashMap;
import java.util.Map;
import java.util.TreeSet;
import java.util.regex.Matcher;
import java.util.regex.Pattern;

/** Runs the calls that README.md tells, as they stand there: each answers what is told, and no method is left out. */
public final class ReadmeTest {
    private static final Due due = new Due();
    private static final Pattern CALL = Pattern.compile("x\\.(\\w+)\\((.*?)\\); *// (-?\\d+)(: .*)?");

    public static void main(String[] args) throws Exception {
        Map<String, Method> methods = new HashMap<>();
        for (Method method : DrownedLight.class.getDeclaredMethods()) {
            if (Modifier.isPublic(method.getModifiers())) {
                methods.put(method.getName(), method);
            }
        }
        TreeSet<String> leftOut = new TreeSet<>(methods.keySet());
        due.promise("README.md");
        due.is("methods of the face", methods.size(), 39);
        DrownedLight x = new DrownedLight();
        for (String line : Files.readAllLines(Path.of("README.md"))) {
            if (!line.startsWith("x.")) {
                continue;
            }
            Matcher call = CALL.matcher(line);
            Method method = call.matches() ? methods.get(call.group(1)) : null;
            due.is("a call and its answer can be read in " + line, method == null ? 0 : 1, 1);
            if (method != null) {
                leftOut.remove(call.group(1));
                due.is(line, answer(x, method, call.group(2)), Long.parseLong(call.group(3)));
            }
        }
        due.is("methods left out", leftOut.toString(), "[]");
        due.end();
    }

    private static long answer(DrownedLight x, Method method, String told) throws Exception {
        String[] words = told.isEmpty() ? new String[0] : told.split(", ");
        Object[] arguments = new Object[words.length];
        for (int i = 0; i < words.length; i++) {
            int number = words[i].startsWith("'") ? words[i].charAt(1) : Integer.parseInt(words[i]);
            arguments[i] = number;
            if (method.getParameterTypes()[i] == long.class) {
                arguments[i] = (long) number;
            }
        }
        return ((Number) method.invoke(x, arguments)).longValue();
    }
}
