import java.io.IOException;
import java.lang.reflect.Field;
import java.lang.reflect.Method;
import java.lang.reflect.Modifier;
import java.nio.file.Files;
import java.nio.file.Path;
import java.util.Arrays;
import java.util.HashMap;
import java.util.List;
import java.util.Map;
import java.util.regex.Matcher;
import java.util.regex.Pattern;

/** README.md: its examples answer what it says, and its tables leave no call and no answer out. */
final class ReadmeTest {
    private static final Path README = Path.of("README.md");
    private static final Pattern MADE = Pattern.compile("PrimaryLockTxn table = new PrimaryLockTxn\\(([-\\d, ]+)\\);.*");
    private static final Pattern CALLED = Pattern.compile("table\\.(\\w+)\\(([-\\d, ]+)\\); *// (-?\\d+|[A-Z_]+)(:.*)?");

    private static final Map<String, Integer> constants = new HashMap<>();
    private static Face table;
    private static int played = 0;
    private static int wrong = 0;

    public static void main(String[] args) throws IOException, IllegalAccessException {
        for (Field field : PrimaryLockTxn.class.getFields()) {
            constants.put(field.getName(), field.getInt(null));
        }
        List<String> lines = Files.readAllLines(README);
        examples(lines);
        tables(lines);
        System.out.println(played + " calls of README.md played, " + wrong + " wrong");
        if (wrong != 0 || played == 0) {
            System.exit(1);
        }
    }

    private static void expect(boolean holds, String what) {
        if (!holds) {
            wrong++;
            System.out.println("does not hold: " + what);
        }
    }

    private static void examples(List<String> lines) {
        boolean inside = false;
        for (String line : lines) {
            if (line.startsWith("```")) {
                inside = line.equals("```java");
            } else if (inside && !line.isEmpty()) {
                play(line);
            }
        }
    }

    private static void play(String line) {
        Matcher made = MADE.matcher(line);
        Matcher called = CALLED.matcher(line);
        if (made.matches()) {
            int[] sizes = numbers(made.group(1));
            table = new Program(sizes[0], sizes[1], sizes[2], sizes[3]);
        } else if (called.matches()) {
            played++;
            int got = new Call(called.group(1), numbers(called.group(2))).on(table);
            expect(got == answer(called.group(3)), line + ", it answered " + got);
        } else {
            expect(false, "an example is made of calls with their answers: " + line);
        }
    }

    private static int[] numbers(String text) {
        return Arrays.stream(text.split(", *")).mapToInt(Integer::parseInt).toArray();
    }

    private static int answer(String text) {
        return Character.isUpperCase(text.charAt(0)) ? constants.get(text) : Integer.parseInt(text);
    }

    private static void tables(List<String> lines) {
        for (Method method : PrimaryLockTxn.class.getDeclaredMethods()) {
            if (Modifier.isPublic(method.getModifiers())) {
                expect(rows(lines, "| `" + method.getName() + "(") == 1, "a row for the call " + method.getName());
            }
        }
        constants.forEach((name, number) -> {
            if (number < 0) {
                expect(rows(lines, "| `" + name + "` |") == 1, "a row for the answer " + name);
            }
        });
    }

    private static long rows(List<String> lines, String start) {
        return lines.stream().filter(line -> line.startsWith(start)).count();
    }
}
