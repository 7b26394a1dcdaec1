import java.io.IOException;
import java.lang.reflect.Method;
import java.nio.file.Files;
import java.nio.file.Path;
import java.util.HashMap;
import java.util.HashSet;
import java.util.List;
import java.util.Map;
import java.util.Set;
import java.util.regex.Matcher;
import java.util.regex.Pattern;

/** README.md: its calls answer what stands behind them, and it names all calls of the face. */
public final class ReadmeTest extends Checks {
    private static final Path README = Path.of("README.md");
    private static final Pattern CALL =
            Pattern.compile("(?:int (\\w+) = )?x\\.(\\w+)\\((.*)\\);\\s+// (-?\\d+).*");

    public static void main(String[] args) throws IOException {
        List<String> lines = Files.readAllLines(README);
        test("the calls in README.md", () -> makeCalls(lines));
        test("README.md names all calls", () -> nameAll(String.join("\n", lines)));
        finish();
    }

    private static void makeCalls(List<String> lines) {
        int begin = lines.indexOf("```java");
        int end = begin + lines.subList(begin, lines.size()).indexOf("```");
        FellersOrder x = new FellersOrder();
        Map<String, Integer> names = new HashMap<>();
        int calls = 0;
        for (String line : lines.subList(begin + 2, end)) {
            if (!line.isEmpty()) {
                makeCall(x, line, names);
                calls++;
            }
        }
        due("whether there are calls", calls > 20 ? 1 : 0, 1);
    }

    private static void makeCall(FellersOrder x, String line, Map<String, Integer> names) {
        Matcher call = CALL.matcher(line);
        if (!call.matches()) {
            throw new IllegalStateException("no call with an answer: " + line);
        }
        int answer = answerOf(x, call.group(2), call.group(3), names);
        due(line, answer, Integer.parseInt(call.group(4)));
        if (call.group(1) != null) {
            names.put(call.group(1), answer);
        }
    }

    private static int answerOf(FellersOrder x, String name, String with, Map<String, Integer> names) {
        String[] words = with.isEmpty() ? new String[0] : with.split(", ");
        Object[] numbers = new Object[words.length];
        Class<?>[] types = new Class<?>[words.length];
        for (int i = 0; i < words.length; i++) {
            numbers[i] = names.containsKey(words[i]) ? names.get(words[i]) : Integer.valueOf(words[i]);
            types[i] = int.class;
        }
        try {
            return (Integer) FellersOrder.class.getMethod(name, types).invoke(x, numbers);
        } catch (ReflectiveOperationException e) {
            throw new IllegalStateException(name + "(" + with + ")", e);
        }
    }

    private static void nameAll(String readme) {
        Set<String> named = new HashSet<>();
        Matcher word = Pattern.compile("`(\\w+)(?:\\(\\w*\\))?`").matcher(readme);
        while (word.find()) {
            named.add(word.group(1));
        }
        for (Method method : FellersOrder.class.getMethods()) {
            if (method.getDeclaringClass() == FellersOrder.class) {
                due("whether it names " + method.getName(), named.contains(method.getName()) ? 1 : 0, 1);
            }
        }
    }
}
