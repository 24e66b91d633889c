import java.io.IOException;
import java.nio.file.Files;
import java.nio.file.Path;
import java.util.regex.Matcher;
import java.util.regex.Pattern;

/** The calls that README.md shows answer what is written beside them, and its table has every call of the face. */
public final class ReadmeTest {
    private static final int PROMISED_CALLS = 49;
    private static final Pattern CALL = Pattern.compile("x\\.(\\w+)\\(([^)]*)\\);");

    private static int wrong = 0;

    public static void main(String[] args) throws IOException {
        String text = Files.readString(Path.of("README.md"));
        int from = text.indexOf("```java");
        String[] lines = text.substring(from, text.indexOf("```", from + 3)).split("\n");
        Run run = new Run();
        int told = 0;
        for (String line : lines) {
            String[] sides = line.split(" +// ", 2);
            Matcher answers = Pattern.compile("^(-?\\d+(?:, -?\\d+)*):").matcher(sides.length > 1 ? sides[1] : "");
            String[] due = answers.find() ? answers.group(1).split(", ") : new String[0];
            Matcher call = CALL.matcher(sides[0]);
            for (int i = 0; call.find(); i++) {
                // The one follower there is has the number 0.
                String words = call.group(1) + " " + call.group(2).replace("f", "0").replace(",", "");
                long got = run.ask(words.trim());
                if (i < due.length) {
                    told++;
                    check(got == Long.parseLong(due[i]), words + " answered " + got + ", README.md says " + due[i]);
                }
            }
        }
        check(told >= 12, "README.md tells only " + told + " answers");
        checkTable(text);
        if (wrong != 0) {
            System.exit(1);
        }
    }

    private static void checkTable(String text) {
        int calls = 0;
        for (java.lang.reflect.Method m : LeaderTerms.class.getDeclaredMethods()) {
            if (java.lang.reflect.Modifier.isPublic(m.getModifiers())) {
                calls++;
                check(Pattern.compile("\\| `[^`]*\\b" + m.getName() + "\\b[^`]*` \\|").matcher(text).find(), "README.md has no " + m.getName());
            }
        }
        check(calls == PROMISED_CALLS, calls + " calls");
    }

    private static void check(boolean holds, String what) {
        if (!holds) {
            wrong++;
            System.out.println(what);
        }
    }
}
