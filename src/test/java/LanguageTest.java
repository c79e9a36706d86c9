import java.io.IOException;
import java.nio.file.Files;
import java.nio.file.Path;
import java.util.ArrayList;
import java.util.LinkedHashMap;
import java.util.List;
import java.util.Map;
import java.util.Set;
import java.util.TreeSet;
import java.util.regex.Matcher;
import java.util.regex.Pattern;

/**
 * What of LANGUAGE.md can be read off the source. It is narrower than the rules in places (for
 * loops alone, arrays in field initialisers alone), as the program needs no more than that.
 */
final class LanguageTest {
    private static final Path SOURCE = Path.of("src/main/java/PrimaryLockTxn.java");
    private static final String BARRED = "package|import|interface|enum|record|extends|implements|float|double|null"
            + "|throw|throws|try|catch|finally|synchronized|assert|instanceof|while|do|protected|native|volatile|var";
    private static final Pattern METHOD = Pattern.compile(
            "(?m)^    (public|private) (?:static )?(?:(?:int|long|boolean|void) )?(\\w+)\\(([^)]*)\\) \\{\\n(.*?)^    \\}\\n",
            Pattern.DOTALL);
    private static final Pattern CALL = Pattern.compile("\\b([a-z]\\w*)\\(");
    private static final Set<String> NO_CALLS = Set.of("if", "for", "switch", "return");
    private static final int MOST_LINES = 60;
    private static final int MOST_FIELDS = 40;
    private static final int MOST_PARAMETERS = 7;
    private static final int MOST_DEPTH = 6;

    private static int wrong = 0;

    public static void main(String[] args) throws IOException {
        String code = Files.readString(SOURCE).replaceAll("(?s)/\\*.*?\\*/", "").replaceAll("//[^\\n]*", "");
        words(code);
        fields(code);
        Map<String, String> bodies = methods(code);
        bodies.forEach(LanguageTest::loops);
        bodies.forEach(LanguageTest::callsInArguments);
        depths(bodies);
        System.out.println(bodies.size() + " methods read, " + wrong + " wrong");
        if (wrong != 0) {
            System.exit(1);
        }
    }

    private static void expect(boolean holds, String what) {
        if (!holds) {
            wrong++;
            System.out.println("does not hold: " + what);
        }
    }

    private static void words(String code) {
        each(code, "\\b(" + BARRED + ")\\b", word -> expect(false, "rules 1 to 8: no " + word));
        each(code, "\\b([A-Z]\\w*[a-z]\\w*)\\b", name -> expect(name.equals("PrimaryLockTxn"), "rules 2, 3: no class " + name));
        each(code, "(\"|'|->|::|@|\\[\\]\\s*\\[\\]|\\]\\s*\\[)", sign -> expect(false, "rules 2, 6: no " + sign));
        expect(code.split("\\bclass\\b", -1).length == 2, "rule 1: one class");
    }

    private interface Found {
        void at(String text);
    }

    private static void each(String code, String pattern, Found found) {
        Matcher m = Pattern.compile(pattern).matcher(code);
        while (m.find()) {
            found.at(m.group(1));
        }
    }

    private static void fields(String code) {
        int count = 0;
        for (String line : code.split("\\n")) {
            if (line.matches("    (public|private) static .*;")) {
                expect(line.matches("    (public|private) static final (int|long) [A-Z_]+ = .*;"), "rule 5: " + line);
            } else if (line.matches("    (public|private) .*;")) {
                count++;
                expect(line.startsWith("    private "), "rule 1: " + line);
                expect(!line.contains("[]") || line.matches("    private final (\\w+)\\[\\] \\w+ = new \\1\\[[A-Z_]+\\];"),
                        "rule 4: " + line);
            } else {
                expect(!line.matches(".*\\bnew\\b.*"), "rule 4: " + line);
            }
        }
        expect(count > 0 && count <= MOST_FIELDS, "rule 10: " + count + " fields");
    }

    private static Map<String, String> methods(String code) {
        Map<String, String> bodies = new LinkedHashMap<>();
        Matcher m = METHOD.matcher(code);
        int read = 0;
        while (m.find()) {
            read++;
            String name = m.group(2);
            expect(bodies.put(name, m.group(4)) == null, "rule 1: one method named " + name);
            expect(m.group(3).split(",").length <= MOST_PARAMETERS, "rule 10: parameters of " + name);
            expect(m.group(4).split("\\n").length <= MOST_LINES, "rule 10: lines of " + name);
        }
        int opened = code.split("(?m)^    (?:public|private) [^;=]*\\{$", -1).length - 1;
        expect(read == opened && read > 0, opened + " methods opened, " + read + " read");
        return bodies;
    }

    /** Rule 8: a counter that goes one way to a bound, and nothing else moves it. */
    private static void loops(String name, String body) {
        Matcher m = Pattern.compile("\\bfor \\((.*)\\) \\{").matcher(body);
        while (m.find()) {
            Matcher head = Pattern.compile("int (\\w+) = \\w+; \\1 (?:(?:<|<=) \\w+; \\1\\+\\+|(?:>|>=) \\w+; \\1--)").matcher(m.group(1));
            boolean plain = head.matches();
            expect(plain, "rule 8: for in " + name);
            if (plain) {
                String rest = body.substring(m.end());
                expect(!rest.matches("(?s).*\\b" + head.group(1) + " ([-+*/%&|^]|<<|>>)?= .*"), "rule 8: counter in " + name);
            }
        }
        expect(body.split("\\bfor\\b", -1).length == body.split("\\bfor \\(", -1).length, "rule 8: every for of " + name);
    }

    private static List<String> calls(String text) {
        List<String> calls = new ArrayList<>();
        Matcher m = CALL.matcher(text);
        while (m.find()) {
            if (!NO_CALLS.contains(m.group(1))) {
                calls.add(m.group(1));
            }
        }
        return calls;
    }

    private static void callsInArguments(String name, String body) {
        Matcher m = CALL.matcher(body);
        while (m.find()) {
            if (!NO_CALLS.contains(m.group(1))) {
                String arguments = body.substring(m.end(), closing(body, m.end()));
                expect(calls(arguments).isEmpty(), "rule 10: a call inside " + m.group(1) + "(" + arguments + ") in " + name);
            }
        }
    }

    private static int closing(String body, int from) {
        int open = 1;
        int at = from;
        while (open > 0) {
            char c = body.charAt(at);
            open += c == '(' ? 1 : c == ')' ? -1 : 0;
            at++;
        }
        return at - 1;
    }

    /** Rules 8 and 10: no method stands on a way of calls from itself, and no way is too long. */
    private static void depths(Map<String, String> bodies) {
        for (String name : bodies.keySet()) {
            Set<String> level = new TreeSet<>(Set.of(name));
            int depth = 0;
            while (!level.isEmpty() && depth <= MOST_DEPTH) {
                Set<String> next = new TreeSet<>();
                for (String one : level) {
                    expect(bodies.containsKey(one), "rule 3: " + one + " is no method of the class");
                    next.addAll(calls(bodies.getOrDefault(one, "")));
                }
                expect(!next.contains(name), "rule 8: " + name + " calls itself");
                level = next;
                depth++;
            }
            expect(level.isEmpty(), "rule 10: calls from " + name + " go deeper than " + MOST_DEPTH);
        }
    }
}
