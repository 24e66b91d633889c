import java.lang.reflect.Constructor;
import java.lang.reflect.Field;
import java.lang.reflect.Method;
import java.lang.reflect.Modifier;
import java.nio.file.Files;
import java.nio.file.Path;
import java.util.Set;
import java.util.TreeSet;
import java.util.regex.Matcher;
import java.util.regex.Pattern;

/** The class has the document's face and nothing else that can be seen from outside. */
public final class FaceTest {
    private static int wrong = 0;

    public static void main(String[] args) throws Exception {
        String doc = Files.readString(Path.of("../shared/DOC.md"));
        String face = doc.substring(doc.indexOf("```java"), doc.indexOf("## Terms"));
        Set<String> due = new TreeSet<>();
        Matcher m = Pattern.compile("public (int|long) (\\w+)\\(([^)]*)\\);").matcher(face);
        while (m.find()) {
            due.add(m.group(1) + " " + m.group(2) + "(" + m.group(3).replaceAll("(int|long) \\w+", "$1") + ")");
        }
        Set<String> there = new TreeSet<>();
        Set<String> hidden = new TreeSet<>();
        for (Method one : LeaderTerms.class.getDeclaredMethods()) {
            if (Modifier.isPublic(one.getModifiers())) {
                there.add(one.getReturnType() + " " + one.getName() + "(" + names(one.getParameterTypes()) + ")");
            } else {
                check(Modifier.isPrivate(one.getModifiers()), one + " is neither public nor private");
                hidden.add(one.getName());
            }
        }
        check(due.size() == 49, "the document's face has " + due.size() + " methods");
        check(due.equals(there), "due are " + due + ", there are " + there);
        Constructor<?>[] makers = LeaderTerms.class.getDeclaredConstructors();
        check(makers.length == 1 && makers[0].getParameterCount() == 0 && Modifier.isPublic(makers[0].getModifiers()), "constructor");
        check(Modifier.isPublic(LeaderTerms.class.getModifiers()) && Modifier.isFinal(LeaderTerms.class.getModifiers()), "final");
        for (Field f : LeaderTerms.class.getDeclaredFields()) {
            check(Modifier.isPrivate(f.getModifiers()), f + " is not private");
        }
        for (Class<?> c : LeaderTerms.class.getDeclaredClasses()) {
            check(Modifier.isStatic(c.getModifiers()), c + " is not static");
            for (Method one : c.getDeclaredMethods()) {
                hidden.add(one.getName());
            }
        }
        check(LeaderTerms.class.getDeclaredClasses().length <= 11, "more than twelve classes");
        for (Method one : LeaderTerms.class.getDeclaredMethods()) {
            check(!Modifier.isPublic(one.getModifiers()) || !hidden.contains(one.getName()), one + " has a namesake");
        }
        if (wrong != 0) {
            System.exit(1);
        }
    }

    private static String names(Class<?>[] types) {
        StringBuilder out = new StringBuilder();
        for (Class<?> t : types) {
            out.append(out.length() == 0 ? "" : ", ").append(t.getName());
        }
        return out.toString();
    }

    private static void check(boolean holds, String what) {
        if (!holds) {
            wrong++;
            System.out.println(what);
        }
    }
}
