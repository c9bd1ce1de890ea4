import java.io.IOException;
import java.lang.reflect.InvocationTargetException;
import java.lang.reflect.Method;
import java.nio.file.Files;
import java.nio.file.Path;
import java.util.NoSuchElementException;
import java.util.regex.Matcher;
import java.util.regex.Pattern;

/** Makes the calls of README.md's example: each answers what stands behind it there. */
public final class ReadmeTest {

    private static final Pattern CALL =
            Pattern.compile("x\\.(\\w+)\\((.*?)\\); +// (-?\\d+|true|false|throws \\w+)(:.*)?");

    private static final long THROWS = Long.MIN_VALUE;

    public static void main(String[] args) throws IOException, ReflectiveOperationException {
        String page = Files.readString(Path.of("README.md"));
        int calls = 0;
        GateNames x = new GateNames();
        for (String line : page.split("\n")) {
            Matcher call = CALL.matcher(line);
            if (call.matches()) {
                Check.due(line, answer(x, call.group(1), call.group(2)), told(call.group(3)));
                calls++;
            } else {
                Check.due("no answer is told: " + line, line.startsWith("x."), false);
            }
        }
        Check.due("README.md has an example", calls > 20, true);
        for (Method method : GateNames.class.getMethods()) {
            if (method.getDeclaringClass() == GateNames.class) {
                String name = method.getName();
                Check.due("README.md names " + name, page.contains("`" + name + "`"), true);
            }
        }
        Check.end("ReadmeTest");
    }

    private static long told(String answer) {
        if (answer.startsWith("throws")) {
            return answer.equals("throws NoSuchElementException") ? THROWS : THROWS + 1;
        }
        return answer.equals("true") ? 1 : answer.equals("false") ? 0 : Long.parseLong(answer);
    }

    private static long answer(GateNames x, String name, String told) throws ReflectiveOperationException {
        String[] words = told.isBlank() ? new String[0] : told.split(", *");
        Class<?>[] types = new Class<?>[words.length];
        Object[] numbers = new Object[words.length];
        for (int i = 0; i < words.length; i++) {
            types[i] = int.class;
            numbers[i] = words[i].equals("GateNames.NONE") ? GateNames.NONE : Integer.decode(words[i]);
        }
        try {
            Object answer = GateNames.class.getMethod(name, types).invoke(x, numbers);
            return answer instanceof Boolean yes ? (yes ? 1 : 0) : ((Number) answer).longValue();
        } catch (InvocationTargetException e) {
            return e.getCause() instanceof NoSuchElementException ? THROWS : THROWS + 2;
        }
    }
}
