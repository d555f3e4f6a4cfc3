import java.lang.reflect.Method;
import java.nio.file.Files;
import java.nio.file.Path;
import java.util.regex.Matcher;
import java.util.regex.Pattern;

/** Makes the calls that README.md shows, on one object in their order, and compares what it says that they answer. */
public final class ReadmeTest {
    private static final Path PAGE = Path.of("README.md");
    private static final Pattern SHOWN = Pattern.compile("port\\.(\\w+)\\(([^)]*)\\);\\s*// (true|false|-?\\d+)( .*)?");
    private static final int FEWEST = 30;

    public static void main(String[] args) throws Exception {
        SaltFigures port = new SaltFigures();
        int shown = 0;
        for (String line : Files.readAllLines(PAGE)) {
            if (line.startsWith("port.")) {
                Matcher call = SHOWN.matcher(line);
                Checks.due("a call with what it answers: " + line, call.matches(), true);
                if (call.matches()) {
                    Checks.due(line, answered(port, call.group(1), call.group(2)), number(call.group(3)));
                    shown++;
                }
            }
        }
        Checks.due("so many calls are shown: " + shown, shown >= FEWEST, true);
        Checks.finish();
    }

    private static long answered(SaltFigures port, String name, String list) throws Exception {
        String[] words = list.isEmpty() ? new String[0] : list.split(", ");
        for (Method method : SaltFigures.class.getMethods()) {
            if (method.getName().equals(name) && method.getParameterCount() == words.length) {
                return number(String.valueOf(method.invoke(port, values(method, words))));
            }
        }
        throw new IllegalStateException("no such method: " + name);
    }

    private static Object[] values(Method method, String[] words) {
        Object[] values = new Object[words.length];
        for (int i = 0; i < words.length; i++) {
            if (method.getParameterTypes()[i] == boolean.class) {
                values[i] = Boolean.valueOf(words[i]);
            } else {
                values[i] = Integer.decode(words[i]);
            }
        }
        return values;
    }

    private static long number(String word) {
        return word.equals("true") ? 1 : word.equals("false") ? 0 : Long.parseLong(word);
    }
}
