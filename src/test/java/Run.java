import java.lang.reflect.InvocationTargetException;
import java.lang.reflect.Method;
import java.util.ArrayList;
import java.util.HashMap;
import java.util.List;
import java.util.Map;

/**
 * One object with all calls made on it, told as texts ("term 7 2"), so that it can be made once more and be read
 * with and without one more call. It is never used for more than the 512 calls that the document allows.
 */
final class Run {
    static final int BEYOND = 0;
    static final int FULL = 1;
    static final int KIND = 2;
    static final int NONE = 3;
    static final int STATE = 4;
    static final int MISSING = 5;
    static final int SIZE = 6;
    static final int OVER = 7;

    private static final int CALLS = 512;
    private static final int INT_LOW = -1000001;
    private static final long LONG_LOW = -1000000000000000001L;
    private static final Map<String, Method> METHODS = new HashMap<>();

    static {
        for (Method m : LeaderTerms.class.getDeclaredMethods()) {
            METHODS.put(m.getName(), m);
        }
    }

    private final List<String> calls = new ArrayList<>();
    private final LeaderTerms object = new LeaderTerms();

    /** A new object, and calls that must not be refused. */
    Run(String... first) {
        make(first);
    }

    /** Calls that must not be refused. */
    Run make(String... some) {
        for (String call : some) {
            long got = ask(call);
            Edges.check(!isFinding(call, got), call + " was refused: " + got, calls);
        }
        return this;
    }

    Run again() {
        Run other = new Run();
        for (String call : calls) {
            other.ask(call);
        }
        return other;
    }

    long ask(String call) {
        calls.add(call);
        Edges.check(calls.size() <= CALLS, "more than 512 calls", calls);
        String[] words = call.split(" ");
        Method m = methodOf(words[0]);
        Object[] args = new Object[words.length - 1];
        for (int i = 0; i < args.length; i++) {
            long v = numberOf(words[i + 1]);
            boolean isLong = m.getParameterTypes()[i] == long.class;
            if (!isLong && v != (int) v) {
                throw new IllegalStateException(call + " has no int");
            }
            args[i] = isLong ? (Object) v : (Object) (int) v;
        }
        try {
            return ((Number) m.invoke(object, args)).longValue();
        } catch (InvocationTargetException | IllegalAccessException e) {
            throw new IllegalStateException(calls.toString(), e);
        }
    }

    /** The call's answer is so; findings are named by findingOf(). */
    Run due(String call, long want) {
        long got = ask(call);
        Edges.check(got == want, call + " answered " + got + ", due is " + want, calls);
        return this;
    }

    /** The same call with 0, 1, .. as its last argument. */
    Run dues(String call, long... wants) {
        for (int i = 0; i < wants.length; i++) {
            due(call + " " + i, wants[i]);
        }
        return this;
    }

    /** On an object like this one, the call answers a finding, and changes nothing but status(). */
    Run refused(String call, int finding) {
        Run with = again();
        long got = with.ask(call);
        long want = findingOf(call, finding);
        Edges.told(call, finding);
        Edges.check(got == want, call + " answered " + got + ", due is " + want, with.calls);
        List<Long> after = with.read(finding);
        Run without = again();
        // As many calls as the other one has made, so that both are read as far.
        without.ask("count 0");
        List<Long> before = without.read(-1);
        Edges.check(after.equals(before), call + " changed what is read from " + before + " to " + after, with.calls);
        return this;
    }

    /** On an object like this one, the call answers no finding, and changes nothing at all. */
    Run asks(String call) {
        Run with = again().make(call);
        Run without = again();
        // As many calls as the other one has made, so that both are read as far.
        without.ask("count 0");
        List<Long> after = with.read(-1);
        List<Long> before = without.read(-1);
        Edges.check(after.equals(before), call + " changed what is read from " + before + " to " + after, with.calls);
        return this;
    }

    /** The argument "?" may be least and greatest, and nothing just outside, or far outside. */
    Run range(String pattern, long least, long greatest, int finding) {
        return from(pattern, least, finding).upTo(pattern, greatest, finding);
    }

    Run from(String pattern, long least, int finding) {
        accepted(pattern, least);
        refused(put(pattern, least - 1), finding);
        refused(put(pattern, isLong(pattern) ? Long.MIN_VALUE : Integer.MIN_VALUE), finding);
        if (isLong(pattern)) {
            refused(put(pattern, least - (1L << 32)), finding);
            refused(put(pattern, Integer.MIN_VALUE), finding);
        }
        return this;
    }

    Run upTo(String pattern, long greatest, int finding) {
        accepted(pattern, greatest);
        refused(put(pattern, greatest + 1), finding);
        refused(put(pattern, isLong(pattern) ? Long.MAX_VALUE : Integer.MAX_VALUE), finding);
        if (isLong(pattern)) {
            refused(put(pattern, greatest + (1L << 32)), finding);
            refused(put(pattern, Integer.MAX_VALUE), finding);
        }
        return this;
    }

    private void accepted(String pattern, long v) {
        String call = put(pattern, v);
        Run other = again();
        long got = other.ask(call);
        Edges.check(!isFinding(call, got), call + " was refused: " + got, other.calls);
    }

    private static String put(String pattern, long v) {
        return pattern.replace("?", Long.toString(v));
    }

    private static boolean isLong(String pattern) {
        String[] words = pattern.split(" ");
        for (int i = 1; i < words.length; i++) {
            if (words[i].equals("?")) {
                return methodOf(words[0]).getParameterTypes()[i - 1] == long.class;
            }
        }
        throw new IllegalStateException(pattern + " has no ?");
    }

    private static Method methodOf(String name) {
        Method m = METHODS.get(name);
        if (m == null) {
            throw new IllegalStateException("no call " + name);
        }
        return m;
    }

    private static long numberOf(String word) {
        switch (word) {
            case "MIN": return Integer.MIN_VALUE;
            case "MAX": return Integer.MAX_VALUE;
            case "LMIN": return Long.MIN_VALUE;
            case "LMAX": return Long.MAX_VALUE;
            default: return Long.parseLong(word);
        }
    }

    static long findingOf(String call, int finding) {
        boolean isLong = methodOf(call.split(" ")[0]).getReturnType() == long.class;
        return (isLong ? LONG_LOW : INT_LOW) - finding;
    }

    static boolean isFinding(String call, long got) {
        long k = findingOf(call, 0) - got;
        return k >= 0 && k <= OVER;
    }

    // ---- reading

    /** All that can be asked, as far as 512 calls go; what is told in status() of a finding is taken off. */
    private List<Long> read(int finding) {
        List<Long> out = new ArrayList<>();
        for (int which = -1; which <= OVER; which++) {
            long off = finding >= 0 && (which == -1 || which == finding) ? 1 : 0;
            add(out, "status " + which, -off);
        }
        readWorld(out);
        readRows(out);
        for (int s = 0; s < 4; s++) {
            // The sort of a sheet shows in what is left of a long number.
            add(out, "write " + s + " 0 81985529216486895", 0);
            add(out, "item " + s + " 0", 0);
        }
        add(out, "judge", 0);
        add(out, "back", 0);
        readWorld(out);
        return out;
    }

    private long add(List<Long> out, String call, long more) {
        if (calls.size() >= CALLS) {
            return 0;
        }
        long got = ask(call);
        out.add(got + more);
        return got;
    }

    private void readWorld(List<Long> out) {
        for (String call : new String[] {"book 0 0", "termOf 0", "termOf 1"}) {
            add(out, call, 0);
        }
        for (int what = 7; what >= 0; what--) {
            add(out, "count " + what, 0);
        }
        long followers = add(out, "count 0", 0);
        for (int f = 0; f < followers; f++) {
            readFollower(out, f);
        }
        add(out, "total 0 0", 0);
        for (int what = 0; what < 5; what++) {
            add(out, "best " + what, 0);
        }
    }

    private void readFollower(List<Long> out, int f) {
        for (int what = 0; what < 7; what++) {
            add(out, "of " + f + " " + what, 0);
        }
        long goods = add(out, "of " + f + " 2", 0);
        long rows = add(out, "of " + f + " 3", 0);
        for (int g = 0; g < goods; g++) {
            for (int what = 0; what < 3; what++) {
                add(out, "goodOf " + f + " " + g + " " + what, 0);
            }
        }
        for (int r = 0; r < rows; r++) {
            for (int what = 0; what < 4; what++) {
                add(out, "rowOf " + f + " " + r + " " + what, 0);
            }
        }
        add(out, "brings " + f + " -1 1 0", 0);
    }

    private void readRows(List<Long> out) {
        for (int s = 0; s < 4; s++) {
            for (int i = 0; i < 40; i++) {
                long got = add(out, "item " + s + " " + i, 0);
                if (isFinding("item", got)) {
                    break;
                }
            }
        }
        for (int spot = 0; spot < 10; spot++) {
            for (int as = 10; as >= 0; as--) {
                long got = add(out, "taken " + spot + " " + as, 0);
                if (got != findingOf("taken", KIND)) {
                    break;
                }
            }
        }
        long pieces = add(out, "count 4", 0);
        for (int k = 0; k < pieces; k++) {
            for (int what = 0; what < 6; what++) {
                add(out, "row " + k + " " + what, 0);
            }
        }
    }
}
