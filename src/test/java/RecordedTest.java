import java.io.IOException;
import java.nio.file.Files;
import java.nio.file.Path;
import java.util.HashSet;
import java.util.Set;

/**
 * Runs that were drawn once and answered by a second model, written in another session than the class and Model.java
 * and by other methods: sides by a simplex, what is neared by infinitely small steps. In src/test/runs/recorded.txt
 * each line is a call and the answer that is due; "new" begins a run on a new object.
 */
public final class RecordedTest {
    private static final int PROMISED_CALLS = 49;

    public static void main(String[] args) throws IOException {
        Set<String> names = new HashSet<>();
        Run run = new Run();
        int runs = 0;
        int wrong = 0;
        for (String line : Files.readAllLines(Path.of("src/test/runs/recorded.txt"))) {
            if (line.equals("new")) {
                run = new Run();
                runs++;
                continue;
            }
            int middle = line.indexOf(" = ");
            String call = line.substring(0, middle);
            long due = Long.parseLong(line.substring(middle + 3));
            long got = run.ask(call);
            names.add(call.split(" ")[0]);
            if (got != due) {
                wrong++;
                System.out.println("run " + runs + ": " + call + " answered " + got + ", due is " + due);
            }
        }
        if (names.size() != PROMISED_CALLS) {
            wrong++;
            System.out.println("only " + names.size() + " calls of the face are recorded");
        }
        if (wrong != 0) {
            System.exit(1);
        }
    }
}
