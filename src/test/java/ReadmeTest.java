import java.io.File;
import java.io.IOException;
import java.lang.reflect.Method;
import java.lang.reflect.Modifier;
import java.nio.file.Files;
import java.nio.file.Path;
import java.util.Map;
import java.util.Set;
import java.util.TreeSet;
import java.util.regex.Matcher;
import java.util.regex.Pattern;

/** README.md: each use of the class that it shows answers as it says, each call is shown, each test is told. */
public final class ReadmeTest {
    private static final Pattern FED = Pattern.compile("for \\(char c : \"([^\"]*)\"\\.toCharArray\\(\\)\\) \\{");
    private static final Pattern CALL = Pattern.compile("x\\.(\\w+)\\(([^)]*)\\); +// (-?\\w+)\\b.*");
    private static final Pattern TOLD_TEST = Pattern.compile("(?m)^- `(\\w+Test)`: ");
    private static final Map<String, Integer> REFUSALS =
            Map.of("NONE", Run.NONE, "BAD", Run.BAD, "STATE", Run.STATE, "FULL", Run.FULL);

    private static final Set<String> shown = new TreeSet<>();
    private static Run run = new Run();

    public static void main(String[] args) throws IOException {
        String readme = Files.readString(Path.of("README.md"));
        usesAnswer(readme);
        Run.check("the calls shown are " + shown + ", not " + publicCalls(), shown.equals(publicCalls()));
        Run.check("README.md does not tell the command that runs the tests", readme.contains("\n    .ci/run\n"));
        Run.check("the tests told are " + toldTests(readme) + ", not " + tests(), toldTests(readme).equals(tests()));
        Run.end();
    }

    private static void usesAnswer(String readme) {
        boolean inside = false;
        for (String line : readme.split("\n")) {
            if (line.startsWith("```")) {
                inside = line.equals("```java");
            } else if (inside) {
                use(line.trim());
            }
        }
    }

    private static void use(String line) {
        Matcher fed = FED.matcher(line);
        Matcher call = CALL.matcher(line);
        if (line.equals("TurnipSquires x = new TurnipSquires();")) {
            run = new Run();
        } else if (fed.matches()) {
            run.make("text " + fed.group(1));
            shown.add("feed");
        } else if (call.matches()) {
            shown.add(call.group(1));
            run.due(number(call.group(3)), (call.group(1) + " " + call.group(2).replace(",", "")).trim());
        } else {
            // The two lines that are left belong to the loop that feeds.
            Run.check("not understood: " + line, line.equals("x.feed(c);") || line.equals("}"));
        }
    }

    private static int number(String told) {
        Integer refusal = REFUSALS.get(told);
        return refusal == null ? Integer.parseInt(told) : refusal;
    }

    private static Set<String> publicCalls() {
        Set<String> names = new TreeSet<>();
        for (Method m : TurnipSquires.class.getDeclaredMethods()) {
            if (Modifier.isPublic(m.getModifiers())) {
                names.add(m.getName());
            }
        }
        return names;
    }

    private static Set<String> toldTests(String readme) {
        Set<String> told = new TreeSet<>();
        Matcher m = TOLD_TEST.matcher(readme);
        while (m.find()) {
            told.add(m.group(1));
        }
        return told;
    }

    private static Set<String> tests() {
        Set<String> found = new TreeSet<>();
        String[] files = new File("src/test/java").list();
        for (String file : files == null ? new String[0] : files) {
            if (file.endsWith("Test.java")) {
                found.add(file.substring(0, file.length() - ".java".length()));
            }
        }
        return found;
    }
}
