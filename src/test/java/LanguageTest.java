import java.nio.file.Files;
import java.nio.file.Path;
import java.util.List;
import java.util.regex.Matcher;
import java.util.regex.Pattern;

/** The rules of LANGUAGE.md that can be seen from the program's text. */
public final class LanguageTest {
    private static int wrong = 0;

    public static void main(String[] args) throws Exception {
        String text = Files.readString(Path.of("src/main/java/LeaderTerms.java"));
        check(text.chars().allMatch(c -> c < 128), "a sign beyond 127");
        String code = text.replaceAll("(?s)/\\*.*?\\*/", "").replaceAll("//[^\n]*", "");
        String[] barred = {"throw", "try", "catch", "synchronized", "assert", "import", "package", "record", "hashCode",
            "equals", "toString", "double", "float", "volatile", "transient", "native", "instanceof", "String", "Object"};
        for (String word : barred) {
            check(!Pattern.compile("\\b" + word + "\\b").matcher(code).find(), word + " (rules 3, 4, 6)");
        }
        for (String sign : new String[] {"->", "::", "@", "Exact", "\"", "static {"}) {
            check(!code.contains(sign), sign + " (rules 2, 4, 5, 6)");
        }
        checkLibrary(code);
        checkMethods(code);
        checkDivisors(code);
        if (wrong != 0) {
            System.exit(1);
        }
    }

    private static void checkLibrary(String code) {
        List<String> known = List.of("System.arraycopy", "Integer.bitCount", "Long.compare", "Math.floorDiv", "Math.max",
            "Math.min");
        Matcher m = Pattern.compile("\\b(System|Integer|Long|Math|Arrays)\\.\\w+").matcher(code);
        while (m.find()) {
            check(known.contains(m.group()), m.group() + " (rule 4)");
        }
    }

    private static void checkMethods(String code) {
        String[] lines = code.split("\n");
        int from = -1;
        String indent = "";
        for (int i = 0; i < lines.length; i++) {
            Matcher m = Pattern.compile("^(\\s+)[\\w\\[\\]<> ]+\\(([^()]*)\\) \\{$").matcher(lines[i]);
            if (from < 0 && m.matches() && !lines[i].trim().matches("(if|for|while|switch|else).*")) {
                from = i;
                indent = m.group(1);
                check(m.group(2).split(",").length <= 7, lines[i].trim() + " (rule 11: seven parameters)");
            } else if (from >= 0 && lines[i].equals(indent + "}")) {
                check(i - from < 60, lines[from].trim() + " (rule 11: sixty lines)");
                from = -1;
            }
        }
    }

    /** Each divisor is a number written out, or stands in a list of those that were looked at. */
    private static void checkDivisors(String code) {
        List<String> seen = List.of("divisor", "y", "below", "v", "b", "base", "KINDS", "GOODS", "(below", "(most");
        Matcher m = Pattern.compile("[/%] (\\(?\\w+)").matcher(code);
        while (m.find()) {
            String by = m.group(1);
            check(by.matches("[1-9]\\d*") || seen.contains(by), "a divisor: " + by + " (rule 7)");
        }
    }

    private static void check(boolean holds, String what) {
        if (!holds) {
            wrong++;
            System.out.println(what);
        }
    }
}
