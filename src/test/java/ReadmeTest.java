import java.io.IOException;
import java.lang.reflect.Field;
import java.lang.reflect.Method;
import java.lang.reflect.Modifier;
import java.nio.file.Files;
import java.nio.file.Path;
import java.util.Arrays;
import java.util.List;
import java.util.regex.Matcher;
import java.util.regex.Pattern;

/** README.md tells what is so: its example has the answers that stand there, and it names the whole face. */
public final class ReadmeTest {
    private static final Pattern CALL = Pattern.compile("house\\.(\\w+)\\(([^)]*)\\); +// (-?\\d+)(:.*)?");

    private static final Due due = new Due();

    public static void main(String[] args) throws IOException, IllegalAccessException {
        List<String> lines = Files.readAllLines(Path.of("README.md"));
        example(lines);
        calls(lines);
        constants(lines);
        due.end();
    }

    private static void example(List<String> lines) {
        GlossHouse house = new GlossHouse();
        int calls = 0;
        for (String line : lines) {
            if (line.startsWith("house.")) {
                Matcher call = CALL.matcher(line);
                due.is("can be read: " + line, call.matches() ? 1 : 0, 1);
                if (call.matches()) {
                    int got = Calls.ask(house, call.group(1), numbers(call.group(2)));
                    due.is(line, got, Integer.parseInt(call.group(3)));
                    calls++;
                }
            }
        }
        due.isNot("calls of the example", calls, 0);
    }

    private static int[] numbers(String list) {
        return list.isEmpty() ? new int[0]
                : Arrays.stream(list.split(", ")).mapToInt(Integer::parseInt).toArray();
    }

    private static void calls(List<String> lines) {
        for (Method method : GlossHouse.class.getDeclaredMethods()) {
            if (Modifier.isPublic(method.getModifiers())) {
                String name = "`" + method.getName() + "`";
                long rows = lines.stream().filter(line -> line.startsWith("| ") && line.contains(name)).count();
                due.is("rows that name " + name, (int) rows, 1);
            }
        }
    }

    private static void constants(List<String> lines) throws IllegalAccessException {
        for (Field field : GlossHouse.class.getDeclaredFields()) {
            if (Modifier.isPublic(field.getModifiers())) {
                String row = "| `" + field.getName() + "` | " + field.getInt(null) + " | ";
                long rows = lines.stream().filter(line -> line.startsWith(row)).count();
                due.is("rows that begin " + row, (int) rows, 1);
            }
        }
    }
}
