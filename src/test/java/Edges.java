import java.io.IOException;
import java.nio.file.Files;
import java.nio.file.Path;
import java.util.ArrayList;
import java.util.List;
import java.util.Map;
import java.util.Set;
import java.util.TreeMap;
import java.util.TreeSet;

/**
 * Holds tests against the document's own words: each test stands under a sentence that it quotes, each sentence of
 * a part must be quoted, and each finding that a promise names must have been told by its call.
 */
final class Edges {
    private static final String[] FINDINGS = {"BEYOND", "FULL", "KIND", "NONE", "STATE", "MISSING", "SIZE", "OVER"};

    private static int wrong = 0;
    private static int checks = 0;
    private static String part = "";
    private static char[] left = new char[0];
    private static String sentence = "";
    private static final Map<String, Set<String>> TOLD = new TreeMap<>();

    private Edges() {
    }

    static String document() {
        try {
            return Files.readString(Path.of("../shared/DOC.md"));
        } catch (IOException e) {
            throw new IllegalStateException(e);
        }
    }

    /** Runs the tests of the promises from a number on, one for each, against the words of each. */
    static void promises(int first, Runnable... tests) {
        String doc = document();
        for (int i = 0; i < tests.length; i++) {
            int number = first + i;
            int from = doc.indexOf("## Promise " + number + ":");
            int to = doc.indexOf("\n## ", from + 1);
            String text = doc.substring(doc.indexOf('\n', from), to).trim();
            String call = text.substring(1, text.indexOf('(')).replaceAll(".* ", "");
            begin("promise " + number, text.substring(text.indexOf("`: ") + 3));
            tests[i].run();
            end();
            checkFindings(call, " . " + text);
        }
        exit();
    }

    /** From here on sentences are those of this part of the document. */
    static void begin(String name, String text) {
        part = name;
        left = plain(text).toCharArray();
        sentence = "";
    }

    /** The tests behind this one, up to the next, are those of a sentence of the part. */
    static void says(String words) {
        endSentence();
        sentence = plain(words);
        int at = new String(left).indexOf(sentence);
        if (at < 0) {
            fault(part + " doesn't say (any more): " + words);
            return;
        }
        for (int i = at; i < at + sentence.length(); i++) {
            left[i] = ' ';
        }
        checks = 0;
    }

    private static void endSentence() {
        if (!sentence.isEmpty() && checks == 0) {
            fault(part + ": no test of: " + sentence);
        }
    }

    /** All of the part's words must have been quoted. */
    static void end() {
        endSentence();
        String rest = new String(left).replaceAll("[\\s.;,`:]+", " ").trim();
        if (!rest.isEmpty()) {
            fault(part + ": no test of: " + rest);
        }
        sentence = "";
    }

    private static String plain(String text) {
        return text.replaceAll("\\s+", " ").trim();
    }

    static void check(boolean holds, String what, List<String> calls) {
        checks++;
        if (!holds) {
            List<String> last = new ArrayList<>(calls.subList(Math.max(0, calls.size() - 60), calls.size()));
            fault(part + ", \"" + sentence + "\": " + what + " in " + last);
        }
    }

    static void told(String call, int finding) {
        TOLD.computeIfAbsent(call.split(" ")[0], k -> new TreeSet<>()).add(FINDINGS[finding]);
    }

    /** A call's refusals were those that its promise names, and all of them. */
    static void checkFindings(String call, String promise) {
        Set<String> named = new TreeSet<>();
        for (String finding : FINDINGS) {
            // KIND is a follower's, too: as a finding it stands at the head of a sentence.
            if (promise.matches("(?s).*(\\. |, )" + finding + "([.:,]| \\().*")) {
                named.add(finding);
            }
        }
        Set<String> told = TOLD.getOrDefault(call, new TreeSet<>());
        if (!told.equals(named)) {
            fault(call + " names " + named + ", but was refused by " + told);
        }
    }

    private static void fault(String text) {
        wrong++;
        if (wrong <= 40) {
            System.out.println(text);
        }
    }

    static void exit() {
        if (wrong != 0) {
            System.out.println(wrong + " wrong");
            System.exit(1);
        }
    }
}
