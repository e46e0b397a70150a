import java.io.IOException;
import java.lang.reflect.Method;
import java.nio.file.Files;
import java.nio.file.Path;
import java.util.regex.Matcher;
import java.util.regex.Pattern;

/** The examples in README.md answer what the remarks behind them say. */
public final class ReadmeTest {
    private static final Pattern CALL = Pattern.compile("desk\\.(\\w+)\\((.*?)\\);\\s+// (\\S+): .*");

    public static void main(String[] args) throws ReflectiveOperationException, IOException {
        LaneDesk desk = null;
        int examples = 0;
        boolean inExample = false;
        for (String line : Files.readAllLines(Path.of("README.md"))) {
            if (line.startsWith("```")) {
                inExample = line.equals("```java");
            } else if (inExample && line.equals("LaneDesk desk = new LaneDesk();")) {
                desk = new LaneDesk();
                examples++;
            } else if (inExample) {
                dueAsRemarked(desk, line);
            }
        }
        Bench.due("examples in README.md", examples, 2);
        Bench.end();
    }

    private static void dueAsRemarked(LaneDesk desk, String line) throws ReflectiveOperationException {
        Matcher call = CALL.matcher(line);
        Bench.due("a remark with an answer: " + line, call.matches(), true);
        if (call.matches()) {
            Object got = answer(desk, call.group(1), call.group(2));
            Bench.dueRow(line, got.toString(), plain(call.group(3)));
        }
    }

    private static Object answer(LaneDesk desk, String name, String list) throws ReflectiveOperationException {
        String[] words = list.isEmpty() ? new String[0] : list.split(", ");
        for (Method method : LaneDesk.class.getMethods()) {
            if (method.getName().equals(name) && method.getParameterCount() == words.length) {
                Object[] numbers = new Object[words.length];
                for (int k = 0; k < words.length; k++) {
                    boolean truth = method.getParameterTypes()[k] == boolean.class;
                    numbers[k] = truth ? (Object) Boolean.valueOf(words[k]) : Integer.valueOf(words[k]);
                }
                return method.invoke(desk, numbers);
            }
        }
        return "no such call";
    }

    /** A constant's number; anything else as it is written. */
    private static String plain(String word) throws ReflectiveOperationException {
        return word.matches("[A-Z]+") ? LaneDesk.class.getField(word).get(null).toString() : word;
    }
}
