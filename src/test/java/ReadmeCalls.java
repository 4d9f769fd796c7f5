import java.io.IOException;
import java.lang.reflect.Method;
import java.nio.file.Files;
import java.nio.file.Path;
import java.util.regex.Matcher;
import java.util.regex.Pattern;

/** README.md tells calls with their answers, in order, on one object: they must be what the program answers. */
public final class ReadmeCalls {
    private static final Due DUE = new Due("ReadmeCalls");
    private static final Pattern TEXT = Pattern.compile("\"([^\"]*)\"\\.toCharArray\\(\\)");
    private static final Pattern CALL = Pattern.compile("hat\\.(\\w+)\\(([^)]*)\\);\\s+// (-?\\d+).*");

    public static void main(String[] args) throws IOException, ReflectiveOperationException {
        HatGoesRound hat = new HatGoesRound();
        String readme = Files.readString(Path.of("README.md"));
        int calls = 0;
        for (String line : readme.split("\n")) {
            Matcher text = TEXT.matcher(line);
            if (text.find()) {
                Due.tell(hat, text.group(1));
            }
            Matcher call = CALL.matcher(line.strip());
            if (call.matches()) {
                calls++;
                DUE.is(line.strip(), answer(hat, call.group(1), call.group(2)), Long.parseLong(call.group(3)));
            }
        }
        DUE.is("there are calls in README.md", calls > 20 ? 1 : 0, 1);
        everyCallIsNamed(readme);
        DUE.end();
    }

    private static long answer(HatGoesRound hat, String name, String told) throws ReflectiveOperationException {
        String[] numbers = told.isBlank() ? new String[0] : told.split(",\\s*");
        for (Method m : HatGoesRound.class.getMethods()) {
            if (m.getName().equals(name) && m.getDeclaringClass() == HatGoesRound.class) {
                Object[] given = new Object[numbers.length];
                for (int i = 0; i < numbers.length; i++) {
                    given[i] = number(m.getParameterTypes()[i], numbers[i]);
                }
                return ((Number) m.invoke(hat, given)).longValue();
            }
        }
        throw new IllegalStateException("no call: " + name);
    }

    private static Object number(Class<?> type, String told) {
        if (type == boolean.class) {
            return Boolean.valueOf(told);
        }
        if (type == long.class) {
            return Long.valueOf(told.replace("L", ""));
        }
        return Integer.valueOf(told);
    }

    private static void everyCallIsNamed(String readme) {
        for (Method m : HatGoesRound.class.getMethods()) {
            if (m.getDeclaringClass() == HatGoesRound.class) {
                DUE.is("README.md tells of " + m.getName(), readme.contains("| `" + m.getName() + "(") ? 1 : 0, 1);
            }
        }
    }
}
