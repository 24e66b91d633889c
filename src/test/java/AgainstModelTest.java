import java.lang.reflect.InvocationTargetException;
import java.lang.reflect.Method;
import java.util.ArrayList;
import java.util.HashMap;
import java.util.List;
import java.util.Map;
import java.util.Random;

/** Runs of calls drawn from fixed seeds: the class must answer each as the model does. */
public final class AgainstModelTest {
    /** For each call its weight, then the least and greatest of each of its arguments that are meant. */
    private static final String[] CALLS = {
        "follower 8 0 69 1 3", "become 10 0 2 0 69", "of 12 0 2 0 6", "good 30 0 2 0 2 0 2 -9 20",
        "goodOf 4 0 2 0 2 0 2", "budget 14 0 2 0 26 0 20", "bind 16 0 2 0 342 0 20", "loosen 5 0 2 1 3",
        "rowOf 4 0 2 0 3 0 3", "most 8 1 40", "term 16 0 60 1 7", "termOf 4 0 1", "amount 10 0 2 0 6 0 2 0 1",
        "brings 12 0 2 -1 6 0 1 0 1", "total 14 0 2 0 1", "opens 10 0 2 0 2", "openAt 5 0 2 0 6",
        "isOpen 5 0 2 0 127", "price 10 0 2 0 3 0 1", "weigh 8 0 3 0 2", "breaks 5 -1 2", "breakAt 10 -1 2 0 4 0 1",
        "piece 12 0 5 0 5", "best 10 0 4", "asKind 6 0 6 0 4", "settle 6", "kindFor 3 0 2", "tollFor 3 0 2 0 2",
        "without 4 0 2", "mostFor 2 -20 300", "round 5", "loose 3 1 20", "book 6 0 2 -9 9", "seed 3 -9 9",
        "fits 6 0 3 0 2 0 1", "prove 5", "row 6 0 5 0 5", "alter 3 0 5 0 5 -5 5", "judge 6", "sheet 6 0 3 -1 2 0 40",
        "write 12 0 3 0 9 -999 300", "item 5 0 3 0 9", "copy 6 0 3 0 5 0 3 0 5 0 5", "hold 8 0 9 0 3 0 3",
        "taken 10 0 9 0 10", "image 3", "back 3", "count 8 0 7", "status 6 -1 7",
    };
    private static final long[] WILD = {Long.MIN_VALUE, Integer.MIN_VALUE, -1000001, -2, -1, 0, 1, 2, 3, 4, 40, 41,
        1000000, 2000000, 2000001, 1000000000, Integer.MAX_VALUE, 1L << 32, 1L << 40, Long.MAX_VALUE};

    private final Random random;
    private final int rare;
    private final LeaderTerms subject = new LeaderTerms();
    private final Model model = new Model();
    private final List<String> told = new ArrayList<>();

    /** Of the arguments, one in so many is a wild number, and as many are just beyond what is meant. */
    private AgainstModelTest(long seed, int rare) {
        random = new Random(seed);
        this.rare = rare;
    }

    public static void main(String[] args) {
        long from = args.length > 0 ? Long.parseLong(args[0]) : 1;
        long runs = args.length > 1 ? Long.parseLong(args[1]) : 140;
        int wrong = 0;
        Map<String, Integer> plain = new HashMap<>();
        for (long seed = from; seed < from + runs && wrong < 5; seed++) {
            // Each third run is drawn to the edges.
            wrong += new AgainstModelTest(seed, seed % 3 == 0 ? 9 : 60).run(seed, plain) ? 0 : 1;
        }
        for (String c : CALLS) {
            String name = c.split(" ")[0];
            if (runs >= 100 && plain.getOrDefault(name, 0) < 15) {
                wrong++;
                System.out.println(name + " was answered without a finding only " + plain.getOrDefault(name, 0) + " times");
            }
        }
        if (wrong != 0) {
            System.exit(1);
        }
    }

    private boolean run(long seed, Map<String, Integer> plain) {
        int begin = 1 + random.nextInt(3);
        for (int f = 0; f < begin; f++) {
            if (!makeFollower()) {
                System.out.println("seed " + seed + ": " + String.join(", ", told));
                return false;
            }
        }
        for (int i = 0; i < 60; i++) {
            boolean alike = i % 6 == 0 ? scene(random.nextInt(7)) : single();
            if (!alike) {
                System.out.println("seed " + seed + ": " + String.join(", ", told));
                return false;
            }
        }
        for (String call : told) {
            if (!call.contains("= -10000")) {
                plain.merge(call.substring(0, call.indexOf('[')), 1, Integer::sum);
            }
        }
        return true;
    }

    private boolean single() {
        String[] call = pick().split(" ");
        long[] args = new long[(call.length - 2) / 2];
        for (int a = 0; a < args.length; a++) {
            args[a] = draw(Long.parseLong(call[2 + 2 * a]), Long.parseLong(call[3 + 2 * a]));
        }
        if (random.nextInt(4) == 0 && call[0].equals("term")) {
            args[1] = 1 + random.nextInt(2000000);
            args[0] = (long) (random.nextDouble() * 20 * args[1]);
        }
        return alike(call[0], args);
    }

    /** Calls that belong together, which single draws would hardly bring about. */
    private boolean scene(int which) {
        int f = random.nextInt(Math.max(1, subject.count(0)));
        switch (which) {
            case 0: return settled(f);
            case 1: return weighed(f);
            case 2: return fitted(f);
            case 3: return sheets();
            case 4: return held(f);
            case 5: return proved();
            default: return kept(f);
        }
    }

    /** Where the best is, or is neared, followers turn, and answers are as good as others. */
    private boolean settled(int f) {
        boolean alike = true;
        if (random.nextBoolean()) {
            alike = alike("settle");
        } else if (subject.breaks(f) > 0) {
            int k = random.nextInt(subject.breaks(f));
            alike = alike("term", subject.breakAt(f, k, 0), subject.breakAt(f, k, 1));
        }
        for (int what = 0; what < 3; what++) {
            alike &= alike("of", f, 4 + what) && alike("opens", f, what) && alike("openAt", f, random.nextInt(3));
            alike &= alike("total", what, 0) && alike("total", what, 1);
            alike &= alike("price", f, random.nextInt(3), 0) && alike("isOpen", f, subject.openAt(f, 0));
        }
        return alike && alike("brings", f, -1, 1, 0) && alike("kindFor", f) && alike("without", f);
    }

    private boolean weighed(int f) {
        int rows = Math.max(1, subject.of(f, 3));
        long below = 1;
        for (int r = 0; r < rows; r++) {
            long d = Math.max(1, subject.price(f, r, 1));
            below = below / java.math.BigInteger.valueOf(below).gcd(java.math.BigInteger.valueOf(d)).longValue() * d;
        }
        boolean alike = alike("sheet", 0, 2, rows + 1 + random.nextInt(2)) && alike("write", 0, 0, below);
        for (int r = 0; r < rows; r++) {
            long above = subject.price(f, r, 0) * (below / Math.max(1, subject.price(f, r, 1)));
            alike &= alike("write", 0, r + 1, above);
        }
        alike &= alike("weigh", 0, f) && alike("write", 0, random.nextInt(rows + 1), draw(0, 1000000000));
        return alike && alike("weigh", 0, f);
    }

    private boolean fitted(int f) {
        int n = random.nextInt(7);
        boolean alike = alike("sheet", 1, 1, n) && alike("most", 40);
        alike &= alike("become", f, random.nextInt(70));
        for (int x = 0; x < n; x++) {
            alike &= alike("term", x, 1);
            long below = Math.max(1, subject.brings(f, -1, 1, 1));
            long cut = subject.brings(f, -1, 1, 0) / below;
            alike &= alike("write", 1, x, random.nextInt(4) == 0 ? -999 : cut);
        }
        alike &= alike("become", f, random.nextInt(70));
        return alike && alike("fits", 1, f, 0) && alike("fits", 1, f, 1);
    }

    private boolean sheets() {
        int sort = random.nextInt(3);
        boolean alike = alike("sheet", 2, sort, 6) && alike("sheet", 3, random.nextInt(4) == 0 ? 1 : sort, 4);
        for (int i = 0; i < 6; i++) {
            long v = random.nextLong() >> random.nextInt(64);
            alike &= alike("write", 2, i, v) && alike("item", 2, i) && alike("write", 3, i, v);
        }
        for (int i = 0; i < 3; i++) {
            int to = 2 + random.nextInt(2);
            alike &= alike("copy", 2, random.nextInt(4), to, random.nextInt(4), random.nextInt(4));
        }
        for (int i = 0; i < 6; i++) {
            alike &= alike("item", 2, i) && alike("item", 3, i);
        }
        return alike;
    }

    private boolean held(int f) {
        boolean alike = alike("hold", 0, 0, f) && alike("hold", 1, 1, 0) && alike("hold", 2, 2, random.nextInt(4));
        alike &= alike("become", f, random.nextInt(70)) && alike("sheet", random.nextInt(4), random.nextInt(4) - 1, 3);
        for (int as = 0; as <= 10; as++) {
            alike &= alike("taken", random.nextInt(3), as);
        }
        return alike && alike("count", 5);
    }

    private boolean proved() {
        boolean alike = alike("prove") && alike("judge");
        int k = random.nextInt(subject.count(4));
        for (int what = 0; what < 6; what++) {
            alike &= alike("row", k, what) && alike("piece", k, what);
        }
        alike &= alike("alter", k, random.nextInt(6), random.nextInt(5)) && alike("judge");
        alike &= alike("most", 1 + random.nextInt(40)) && alike("judge");
        return alike && alike("mostFor", random.nextInt(400) - 100);
    }

    private boolean kept(int f) {
        boolean alike = alike("image");
        alike &= alike("bind", f, random.nextInt(343), random.nextInt(21)) && alike("follower", random.nextInt(70), 2);
        alike &= alike("good", f, 0, 1, random.nextInt(4)) && alike("loose", 3) && alike("book", 1, 3);
        alike &= alike("hold", 3, 0, subject.count(0) - 1) && alike("back") && alike("taken", 3, 0);
        for (int what = 0; what < 8; what++) {
            alike &= alike("count", what);
        }
        return alike && alike("best", 0) && alike("round");
    }

    /** Numbers come from few, so that answers that are as good as others are common. */
    private boolean makeFollower() {
        int goods = 1 + random.nextInt(3);
        boolean alike = alike("follower", 10 * random.nextInt(7) + random.nextInt(10), goods);
        int f = subject.count(0) - 1;
        int wide = 1 + random.nextInt(20);
        for (int g = 0; g < goods; g++) {
            alike &= alike("good", f, g, 0, 20 - random.nextInt(wide));
            alike &= alike("good", f, g, 1, random.nextInt(4));
            alike &= alike("good", f, g, 2, random.nextInt(19) - 9);
        }
        alike &= alike("budget", f, random.nextInt(27), random.nextInt(21));
        for (int r = random.nextInt(4); r > 0; r--) {
            alike &= alike("bind", f, random.nextInt(343), random.nextInt(21));
        }
        return alike;
    }

    private String pick() {
        int sum = 0;
        for (String c : CALLS) {
            sum += Integer.parseInt(c.split(" ")[1]);
        }
        int at = random.nextInt(sum);
        for (String c : CALLS) {
            at -= Integer.parseInt(c.split(" ")[1]);
            if (at < 0) {
                return c;
            }
        }
        throw new IllegalStateException();
    }

    private long draw(long least, long most) {
        int sort = random.nextInt(rare);
        if (sort == 0) {
            return WILD[random.nextInt(WILD.length)];
        }
        if (sort == 1) {
            return random.nextBoolean() ? least - 1 : most + 1;
        }
        return least + random.nextInt((int) (most - least + 1));
    }

    private boolean alike(String name, long... args) {
        long got = call(subject, LeaderTerms.class, name, args);
        long due = call(model, Model.class, name, args);
        told.add(name + java.util.Arrays.toString(args) + " = " + got + (got == due ? "" : ", due is " + due));
        return got == due;
    }

    private static long call(Object on, Class<?> type, String name, long[] args) {
        for (Method m : type.getDeclaredMethods()) {
            if (m.getName().equals(name) && m.getParameterCount() == args.length) {
                Object[] boxed = new Object[args.length];
                for (int i = 0; i < args.length; i++) {
                    boolean isInt = m.getParameterTypes()[i] == int.class;
                    boxed[i] = isInt ? (Object) (int) args[i] : (Object) args[i];
                }
                try {
                    return ((Number) m.invoke(on, boxed)).longValue();
                } catch (InvocationTargetException | IllegalAccessException e) {
                    throw new IllegalStateException(name + java.util.Arrays.toString(args), e);
                }
            }
        }
        throw new IllegalStateException(name);
    }
}
