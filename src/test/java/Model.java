import java.math.BigInteger;
import java.util.ArrayList;
import java.util.List;
import java.util.TreeSet;

/**
 * The document's words in their plainest form, slow and without bounds, written apart from the class:
 * equations by elimination, sides by inequalities, nearing by terms close by, breaks by all crossings.
 */
final class Model {
    private static final long BIG = -1000000000000000001L;
    private static final Q CLOSE = Q.of(1, 1000000000000000L);

    static final class F implements Cloneable {
        int kind;
        int m;
        int goods;
        int[] worth = {10, 10, 10};
        int[] toll = {1, 1, 1};
        int[] side = {0, 0, 0};
        List<int[]> rows = new ArrayList<>();
        List<Q[]> plans;

        F twin() {
            F f = new F();
            f.kind = kind;
            f.m = m;
            f.goods = goods;
            f.worth = worth.clone();
            f.toll = toll.clone();
            f.side = side.clone();
            for (int[] r : rows) {
                f.rows.add(r.clone());
            }
            return f;
        }

        int pairs() {
            return rows.size() + goods;
        }

        Q feels(Q x) {
            switch (kind) {
                case 3: return x.times(2);
                case 4: return x.plus(Q.of(m));
                case 6: return x.times(2).plus(Q.of(m));
                default: return x;
            }
        }

        Q left(int g, Q x) {
            return Q.of(worth[g]).minus(feels(x).times(toll[g]));
        }

        Q net(Q[] plan, Q x) {
            Q sum = Q.ZERO;
            for (int g = 0; g < goods; g++) {
                sum = sum.plus(plan[g].times(left(g, x)));
            }
            return sum;
        }

        Q gain(Q[] plan, Q x) {
            Q sum = Q.ZERO;
            for (int g = 0; g < goods; g++) {
                sum = sum.plus(plan[g].times(x.times(toll[g]).plus(Q.of(side[g]))));
            }
            return sum;
        }

        Q tolls(Q[] plan) {
            Q sum = Q.ZERO;
            for (int g = 0; g < goods; g++) {
                sum = sum.plus(plan[g].times(toll[g]));
            }
            return sum;
        }

        /** The equation of a pair's being tight, for amounts. */
        Q[] amountLine(int pair) {
            Q[] line = new Q[goods + 1];
            for (int g = 0; g < goods; g++) {
                line[g] = Q.of(pair < rows.size() ? rows.get(pair)[g] : pair - rows.size() == g ? 1 : 0);
            }
            line[goods] = Q.of(pair < rows.size() ? rows.get(pair)[3] : 0);
            return line;
        }

        /** The equation of a pair's being tight, for prices; as an inequality: no less. */
        Q[] priceLine(int pair, Q x) {
            int n = rows.size();
            Q[] line = new Q[n + 1];
            for (int r = 0; r < n; r++) {
                line[r] = Q.of(pair < n ? (pair == r ? 1 : 0) : rows.get(r)[pair - n]);
            }
            line[n] = pair < n ? Q.ZERO : left(pair - n, x);
            return line;
        }

        List<Q[]> amountSides() {
            List<Q[]> sides = new ArrayList<>();
            for (int p = 0; p < pairs(); p++) {
                Q[] line = amountLine(p);
                if (p < rows.size()) {
                    for (int i = 0; i < line.length; i++) {
                        line[i] = line[i].times(-1);
                    }
                }
                sides.add(line);
            }
            return sides;
        }

        List<Q[]> priceSides(Q x) {
            List<Q[]> sides = new ArrayList<>();
            for (int p = 0; p < pairs(); p++) {
                sides.add(priceLine(p, x));
            }
            return sides;
        }

        List<Q[]> plans() {
            if (plans == null) {
                List<Q[]> lines = new ArrayList<>();
                for (int p = 0; p < pairs(); p++) {
                    lines.add(amountLine(p));
                }
                plans = corners(lines, amountSides(), goods);
            }
            return plans;
        }

        List<Q[]> proofs(Q x) {
            List<Q[]> all = corners(priceSides(x), priceSides(x), rows.size());
            Q least = null;
            for (Q[] y : all) {
                if (least == null || cost(y).compareTo(least) < 0) {
                    least = cost(y);
                }
            }
            List<Q[]> out = new ArrayList<>();
            for (Q[] y : all) {
                if (cost(y).equals(least)) {
                    out.add(y);
                }
            }
            return out;
        }

        Q cost(Q[] y) {
            Q sum = Q.ZERO;
            for (int r = 0; r < rows.size(); r++) {
                sum = sum.plus(y[r].times(rows.get(r)[3]));
            }
            return sum;
        }

        boolean isLive(int gone, int in, Q x) {
            List<Q[]> amounts = new ArrayList<>();
            List<Q[]> prices = new ArrayList<>();
            for (int p = 0; p < gone; p++) {
                if ((in >> p & 1) == 1) {
                    amounts.add(amountLine(p));
                } else {
                    prices.add(priceLine(p, x));
                }
            }
            return Linear.canHold(amounts, amountSides(), goods)
                && Linear.canHold(prices, priceSides(x), rows.size());
        }

        int liveUnder(int gone, int in, Q x) {
            if (!isLive(gone, in, x)) {
                return 0;
            }
            if (gone == pairs()) {
                return 1;
            }
            return 1 + liveUnder(gone + 1, in, x) + liveUnder(gone + 1, in | 1 << gone, x);
        }

        int bestPlans(Q x) {
            Q most = null;
            for (Q[] p : plans()) {
                if (most == null || net(p, x).compareTo(most) > 0) {
                    most = net(p, x);
                }
            }
            int set = 0;
            for (int k = 0; k < plans().size(); k++) {
                if (net(plans().get(k), x).equals(most)) {
                    set |= 1 << k;
                }
            }
            return set;
        }

        int answer(Q x) {
            int set = bestPlans(x);
            if (kind == 2 || kind == 4) {
                return Integer.numberOfTrailingZeros(set);
            }
            if (kind == 5) {
                return 31 - Integer.numberOfLeadingZeros(set);
            }
            int chosen = -1;
            for (int k = 0; k < plans().size(); k++) {
                if ((set >> k & 1) == 1) {
                    int order = chosen < 0 ? 0 : gain(plans().get(k), x).compareTo(gain(plans().get(chosen), x));
                    if (chosen < 0 || (kind == 0 ? order > 0 : order < 0)) {
                        chosen = k;
                    }
                }
            }
            return chosen;
        }

        Q answerGain(Q x) {
            return gain(plans().get(answer(x)), x);
        }

        TreeSet<Q> breaks(int most) {
            TreeSet<Q> out = new TreeSet<>();
            int times = kind == 3 || kind == 6 ? 2 : 1;
            for (Q[] p : plans()) {
                for (Q[] o : plans()) {
                    Q less = tolls(p).minus(tolls(o));
                    if (less.sign() != 0) {
                        Q x = net(p, Q.ZERO).minus(net(o, Q.ZERO)).by(less.times(times));
                        int set = x.sign() > 0 && x.compareTo(Q.of(most)) < 0 ? bestPlans(x) : 0;
                        if ((set >> plans().indexOf(p) & 1) == 1 && (set >> plans().indexOf(o) & 1) == 1) {
                            out.add(x);
                        }
                    }
                }
            }
            return out;
        }
    }

    /** All points that hold to the sides and are the only ones on all lines on which they are. */
    private static List<Q[]> corners(List<Q[]> lines, List<Q[]> sides, int unknowns) {
        TreeSet<Q[]> found = new TreeSet<>(java.util.Arrays::compare);
        for (int set = 0; set < 1 << lines.size(); set++) {
            List<Q[]> some = new ArrayList<>();
            for (int i = 0; i < lines.size(); i++) {
                if ((set >> i & 1) == 1) {
                    some.add(lines.get(i));
                }
            }
            Q[] point = some.size() < unknowns ? null : Linear.onlyPoint(some, unknowns);
            if (point != null && holds(point, sides)) {
                found.add(point);
            }
        }
        return new ArrayList<>(found);
    }

    private static boolean holds(Q[] point, List<Q[]> sides) {
        for (Q[] s : sides) {
            Q sum = Q.ZERO;
            for (int i = 0; i < point.length; i++) {
                sum = sum.plus(s[i].times(point[i]));
            }
            if (sum.compareTo(s[point.length]) < 0) {
                return false;
            }
        }
        return true;
    }

    static final class State {
        List<F> all = new ArrayList<>();
        int most = 20;
        Q term = Q.ZERO;
        BigInteger ledger = BigInteger.ZERO;
        int rounds;
        int z = 1;

        State twin() {
            State s = new State();
            for (F f : all) {
                s.all.add(f.twin());
            }
            s.most = most;
            s.term = term;
            s.ledger = ledger;
            s.rounds = rounds;
            s.z = z;
            return s;
        }
    }

    private State now = new State();
    private State kept;
    private final long[][] sheets = new long[4][];
    private final int[] sorts = new int[4];
    private final Object[] spots = new Object[10];
    private final int[] spotSorts = new int[10];
    private List<long[]> pieceRows = new ArrayList<>();
    private final int[] told = new int[8];

    private int no(int k) {
        told[k]++;
        return -1000001 - k;
    }

    private long noLong(int k) {
        told[k]++;
        return BIG - k;
    }

    private boolean is(int f) {
        return f >= 0 && f < now.all.size();
    }

    private static boolean in(long v, long least, long most) {
        return v >= least && v <= most;
    }

    int follower(int km, int goods) {
        if (!in(km, 0, 69) || !in(goods, 1, 3)) {
            return no(0);
        }
        if (now.all.size() == 3) {
            return no(1);
        }
        F f = new F();
        f.kind = km / 10;
        f.m = km % 10;
        f.goods = goods;
        f.rows.add(new int[] {1, 1, 1, 10});
        now.all.add(f);
        return now.all.size() - 1;
    }

    int become(int f, int km) {
        if (!is(f) || !in(km, 0, 69)) {
            return no(0);
        }
        int was = now.all.get(f).kind;
        now.all.get(f).kind = km / 10;
        now.all.get(f).m = km % 10;
        return was;
    }

    int of(int f, int what) {
        if (!is(f) || !in(what, 0, 6)) {
            return no(0);
        }
        F a = now.all.get(f);
        int[] plain = {a.kind, a.m, a.goods, a.rows.size(), a.plans().size(), a.answer(now.term), a.bestPlans(now.term)};
        return plain[what];
    }

    private int[] traits(int f, int what) {
        F a = now.all.get(f);
        return what == 0 ? a.worth : what == 1 ? a.toll : a.side;
    }

    int good(int f, int good, int what, int v) {
        int[] low = {0, 0, -9};
        int[] high = {20, 3, 9};
        if (!is(f) || !in(good, 0, now.all.get(f).goods - 1) || !in(what, 0, 2) || !in(v, low[what], high[what])) {
            return no(0);
        }
        int was = traits(f, what)[good];
        traits(f, what)[good] = v;
        return was;
    }

    int goodOf(int f, int good, int what) {
        if (!is(f) || !in(good, 0, now.all.get(f).goods - 1) || !in(what, 0, 2)) {
            return no(0);
        }
        return traits(f, what)[good];
    }

    int budget(int f, int numbers, int bound) {
        if (!is(f) || !in(numbers, 0, 26) || !in(bound, 0, 20)) {
            return no(0);
        }
        F a = now.all.get(f);
        int was = a.rows.get(0)[3];
        a.rows.set(0, new int[] {numbers / 9 + 1, numbers / 3 % 3 + 1, numbers % 3 + 1, bound});
        a.plans = null;
        return was;
    }

    int bind(int f, int numbers, int bound) {
        if (!is(f) || !in(numbers, 0, 342) || !in(bound, 0, 20)) {
            return no(0);
        }
        F a = now.all.get(f);
        if (a.rows.size() == 4) {
            return no(1);
        }
        a.rows.add(new int[] {numbers / 49 - 3, numbers / 7 % 7 - 3, numbers % 7 - 3, bound});
        a.plans = null;
        return a.rows.size() - 1;
    }

    int loosen(int f, int row) {
        if (!is(f) || !in(row, 1, now.all.get(f).rows.size() - 1)) {
            return no(0);
        }
        now.all.get(f).rows.remove(row);
        now.all.get(f).plans = null;
        return now.all.get(f).rows.size();
    }

    int rowOf(int f, int row, int what) {
        if (!is(f) || !in(row, 0, now.all.get(f).rows.size() - 1) || what != 3 && !in(what, 0, now.all.get(f).goods - 1)) {
            return no(0);
        }
        return now.all.get(f).rows.get(row)[what];
    }

    int most(int v) {
        if (!in(v, 1, 40)) {
            return no(0);
        }
        if (now.term.compareTo(Q.of(v)) > 0) {
            return no(4);
        }
        int was = now.most;
        now.most = v;
        return was;
    }

    int term(long above, long below) {
        if (!in(below, 1, 2000000) || above < 0 || Q.of(above, below).compareTo(Q.of(now.most)) > 0) {
            return no(0);
        }
        now.term = Q.of(above, below);
        return 1;
    }

    long termOf(int part) {
        return in(part, 0, 1) ? now.term.part(part) : noLong(0);
    }

    long amount(int f, int plan, int good, int part) {
        if (!is(f) || !in(plan, 0, now.all.get(f).plans().size() - 1) || !in(good, 0, now.all.get(f).goods - 1)
            || !in(part, 0, 1)) {
            return noLong(0);
        }
        return now.all.get(f).plans().get(plan)[good].part(part);
    }

    long brings(int f, int plan, int what, int part) {
        if (!is(f) || !in(plan, -1, now.all.get(f).plans().size() - 1) || !in(what, 0, 1) || !in(part, 0, 1)) {
            return noLong(0);
        }
        F a = now.all.get(f);
        Q[] p = a.plans().get(plan < 0 ? a.answer(now.term) : plan);
        return (what == 0 ? a.net(p, now.term) : a.gain(p, now.term)).part(part);
    }

    private Q sum(Q x) {
        Q sum = Q.ZERO;
        for (F f : now.all) {
            sum = sum.plus(f.answerGain(x));
        }
        return sum;
    }

    /** TOTAL is straight so close to a term: two terms close by tell what it nears there. */
    private Q nears(Q x, int how) {
        if (how == 0) {
            return sum(x);
        }
        Q step = how == 1 ? CLOSE.times(-1) : CLOSE;
        return sum(x.plus(step)).times(2).minus(sum(x.plus(step.times(2))));
    }

    long total(int how, int part) {
        if (!in(how, 0, 2) || !in(part, 0, 1)) {
            return noLong(0);
        }
        if (how == 1 && now.term.sign() == 0 || how == 2 && now.term.equals(Q.of(now.most))) {
            return noLong(3);
        }
        return nears(now.term, how).part(part);
    }

    int opens(int f, int what) {
        if (!is(f) || !in(what, 0, 2)) {
            return no(0);
        }
        F a = now.all.get(f);
        if (what == 2) {
            return a.proofs(now.term).size();
        }
        return what == 1 ? a.liveUnder(0, 0, now.term) : openSets(a).size();
    }

    private List<Integer> openSets(F a) {
        List<Integer> out = new ArrayList<>();
        for (int set = 0; set < 1 << a.pairs(); set++) {
            if (a.isLive(a.pairs(), set, now.term)) {
                out.add(set);
            }
        }
        return out;
    }

    int openAt(int f, int k) {
        if (!is(f)) {
            return no(0);
        }
        List<Integer> sets = openSets(now.all.get(f));
        return in(k, 0, sets.size() - 1) ? sets.get(k) : no(3);
    }

    int isOpen(int f, int set) {
        if (!is(f) || !in(set, 0, (1 << now.all.get(f).pairs()) - 1)) {
            return no(0);
        }
        return now.all.get(f).isLive(now.all.get(f).pairs(), set, now.term) ? 1 : 0;
    }

    long price(int f, int row, int part) {
        if (!is(f) || !in(row, 0, now.all.get(f).rows.size() - 1) || !in(part, 0, 1)) {
            return noLong(0);
        }
        return now.all.get(f).proofs(now.term).get(0)[row].part(part);
    }

    int weigh(int sheet, int f) {
        if (!in(sheet, 0, 3) || !is(f)) {
            return no(0);
        }
        long[] s = sheets[sheet];
        if (s == null) {
            return no(5);
        }
        F a = now.all.get(f);
        int n = a.rows.size();
        if (s.length < n + 1 || !in(s[0], 1, 1000000)) {
            return 1;
        }
        Q[] y = new Q[n];
        for (int r = 0; r < n; r++) {
            if (!in(s[r + 1], 0, 1000000000)) {
                return 1;
            }
            y[r] = Q.of(s[r + 1], s[0]);
        }
        for (int g = 0; g < a.goods; g++) {
            Q sum = Q.ZERO;
            for (int r = 0; r < n; r++) {
                sum = sum.plus(y[r].times(a.rows.get(r)[g]));
            }
            if (sum.compareTo(a.left(g, now.term)) < 0) {
                return 10 + g;
            }
        }
        return a.cost(y).compareTo(a.net(a.plans().get(a.answer(now.term)), now.term)) > 0 ? 2 : 0;
    }

    private List<Q> breakList(int f, int most) {
        TreeSet<Q> out = new TreeSet<>();
        for (int i = 0; i < now.all.size(); i++) {
            if (f == -1 || f == i) {
                out.addAll(now.all.get(i).breaks(most));
            }
        }
        return new ArrayList<>(out);
    }

    int breaks(int f) {
        return f == -1 || is(f) ? breakList(f, now.most).size() : no(0);
    }

    long breakAt(int f, int k, int part) {
        if (f != -1 && !is(f) || !in(part, 0, 1) || !in(k, 0, breakList(f, now.most).size() - 1)) {
            return noLong(0);
        }
        return breakList(f, now.most).get(k).part(part);
    }

    private List<long[]> pieces() {
        List<Q> ends = breakList(-1, now.most);
        ends.add(0, Q.ZERO);
        ends.add(Q.of(now.most));
        List<long[]> out = new ArrayList<>();
        for (int i = 0; i + 1 < ends.size(); i++) {
            Q left = ends.get(i);
            Q right = ends.get(i + 1);
            Q slope = sum(left.plus(CLOSE.times(2))).minus(sum(left.plus(CLOSE))).by(CLOSE);
            Q l = nears(left, 2);
            Q r = nears(right, 1);
            if (!l.plus(slope.times(right.minus(left))).equals(r)) {
                throw new IllegalStateException("a piece that isn't straight");
            }
            out.add(new long[] {slope.part(0), slope.part(1), l.part(0), l.part(1), r.part(0), r.part(1)});
        }
        return out;
    }

    long piece(int k, int what) {
        List<long[]> all = pieces();
        return in(k, 0, all.size() - 1) && in(what, 0, 5) ? all.get(k)[what] : noLong(0);
    }

    /** Number, where, how. */
    private Object[] bestOfAll(int most) {
        List<Q> at = breakList(-1, most);
        at.add(0, Q.ZERO);
        at.add(Q.of(most));
        for (int i = at.size() - 1; i > 0; i--) {
            at.add(i, at.get(i - 1).plus(at.get(i)).by(Q.of(2)));
        }
        Object[] top = null;
        for (Q x : at) {
            for (int how = 0; how < 3; how++) {
                if (how == 1 && x.sign() == 0 || how == 2 && x.equals(Q.of(most))) {
                    continue;
                }
                Q v = nears(x, how);
                if (top == null || v.compareTo((Q) top[0]) > 0) {
                    top = new Object[] {v, x, how};
                }
            }
        }
        return top;
    }

    private long bestPart(int what) {
        Object[] top = bestOfAll(now.most);
        return what == 4 ? (Integer) top[2] : ((Q) top[what / 2]).part(what % 2);
    }

    long best(int what) {
        return in(what, 0, 4) ? bestPart(what) : noLong(0);
    }

    long asKind(int kind, int what) {
        if (!in(kind, 0, 6) || !in(what, 0, 4)) {
            return noLong(0);
        }
        State was = now;
        now = was.twin();
        for (F f : now.all) {
            f.kind = kind;
        }
        long out = bestPart(what);
        now = was;
        return out;
    }

    int settle() {
        Object[] top = bestOfAll(now.most);
        now.term = (Q) top[1];
        return (Integer) top[2];
    }

    int kindFor(int f) {
        if (!is(f)) {
            return no(0);
        }
        State was = now;
        Q top = null;
        int chosen = -1;
        for (int k = 0; k < 7; k++) {
            now = was.twin();
            now.all.get(f).kind = k;
            Q v = (Q) bestOfAll(now.most)[0];
            if (top == null || v.compareTo(top) > 0) {
                top = v;
                chosen = k;
            }
        }
        now = was;
        return chosen;
    }

    int tollFor(int f, int good) {
        if (!is(f) || !in(good, 0, now.all.get(f).goods - 1)) {
            return no(0);
        }
        State was = now;
        Q top = null;
        int chosen = -1;
        for (int t = 0; t < 4; t++) {
            now = was.twin();
            now.all.get(f).toll[good] = t;
            Q v = (Q) bestOfAll(now.most)[0];
            if (top == null || v.compareTo(top) > 0) {
                top = v;
                chosen = t;
            }
        }
        now = was;
        return chosen;
    }

    int without(int f) {
        if (!is(f)) {
            return no(0);
        }
        State was = now;
        Q top = (Q) bestOfAll(now.most)[0];
        int chosen = -1;
        for (int r = 1; r < was.all.get(f).rows.size(); r++) {
            now = was.twin();
            now.all.get(f).rows.remove(r);
            Q v = (Q) bestOfAll(now.most)[0];
            if (v.compareTo(top) > 0) {
                top = v;
                chosen = r;
            }
        }
        now = was;
        return chosen;
    }

    int mostFor(int v) {
        if (!in(v, -9999, 9999)) {
            return no(0);
        }
        for (int most = 1; most <= 40; most++) {
            if (((Q) bestOfAll(most)[0]).compareTo(Q.of(v)) >= 0) {
                return most;
            }
        }
        return no(3);
    }

    private static boolean isLong(BigInteger v) {
        return v.bitLength() < 64;
    }

    int round() {
        if (now.rounds == 9999) {
            return no(4);
        }
        BigInteger cut = sum(now.term).cut();
        if (!isLong(now.ledger.add(cut))) {
            return no(7);
        }
        now.ledger = now.ledger.add(cut);
        now.rounds++;
        return cut.intValueExact();
    }

    int loose(int n) {
        if (!in(n, 1, 20)) {
            return no(0);
        }
        if (now.rounds + n > 9999) {
            return no(4);
        }
        State was = now;
        now = was.twin();
        int out = 0;
        for (int i = 0; i < n; i++) {
            now.z = now.z * 1103515245 + 12345;
            now.term = Q.of((now.z >>> 8) % (now.most + 1));
            BigInteger cut = sum(now.term).cut();
            now.ledger = now.ledger.add(cut);
            if (!isLong(now.ledger)) {
                now = was;
                return no(7);
            }
            now.rounds++;
            out = cut.intValueExact();
        }
        return out;
    }

    long book(int what, long v) {
        if (!in(what, 0, 2)) {
            return noLong(0);
        }
        if (what == 2 && v == 0) {
            return noLong(3);
        }
        BigInteger b = BigInteger.valueOf(v);
        BigInteger then = what == 0 ? now.ledger.add(b) : what == 1 ? now.ledger.multiply(b) : now.ledger.divide(b);
        if (!isLong(then)) {
            return noLong(7);
        }
        now.ledger = then;
        return then.longValueExact();
    }

    int seed(int v) {
        int was = now.z;
        now.z = v;
        return was;
    }

    int fits(int sheet, int f, int what) {
        if (!in(sheet, 0, 3) || !is(f) || !in(what, 0, 1)) {
            return no(0);
        }
        if (sheets[sheet] == null) {
            return no(5);
        }
        int set = 0;
        for (int k = 0; k < 7; k++) {
            F a = now.all.get(f).twin();
            a.kind = k;
            boolean fits = true;
            for (int x = 0; x < sheets[sheet].length && fits; x++) {
                long due = sheets[sheet][x];
                fits = due == -999 || a.answerGain(Q.of(x)).cut().equals(BigInteger.valueOf(due));
            }
            set |= fits ? 1 << k : 0;
        }
        return what == 0 ? set : Integer.bitCount(set);
    }

    int prove() {
        pieceRows = pieces();
        return pieceRows.size();
    }

    long row(int k, int what) {
        return in(k, 0, pieceRows.size() - 1) && in(what, 0, 5) ? pieceRows.get(k)[what] : noLong(0);
    }

    long alter(int k, int what, long v) {
        if (!in(k, 0, pieceRows.size() - 1) || !in(what, 0, 5)) {
            return noLong(0);
        }
        long was = pieceRows.get(k)[what];
        pieceRows.get(k)[what] = v;
        return was;
    }

    int judge() {
        List<long[]> all = pieces();
        for (int k = 0; k < Math.max(all.size(), pieceRows.size()); k++) {
            if (k >= all.size() || k >= pieceRows.size() || !java.util.Arrays.equals(all.get(k), pieceRows.get(k))) {
                return 1 + k;
            }
        }
        return 0;
    }

    int sheet(int s, int sort, int n) {
        if (!in(s, 0, 3) || !in(sort, -1, 2)) {
            return no(0);
        }
        if (sort == -1) {
            sheets[s] = null;
            return 0;
        }
        if (n < 0) {
            return no(6);
        }
        if (n > 40) {
            return no(0);
        }
        sheets[s] = new long[n];
        sorts[s] = sort;
        return n;
    }

    int write(int s, int i, long v) {
        if (!in(s, 0, 3)) {
            return no(0);
        }
        if (sheets[s] == null) {
            return no(5);
        }
        if (!in(i, 0, sheets[s].length - 1)) {
            return no(0);
        }
        sheets[s][i] = sorts[s] == 0 ? (byte) v : sorts[s] == 1 ? (int) v : v;
        return 1;
    }

    long item(int s, int i) {
        if (!in(s, 0, 3)) {
            return noLong(0);
        }
        if (sheets[s] == null) {
            return noLong(5);
        }
        return in(i, 0, sheets[s].length - 1) ? sheets[s][i] : noLong(0);
    }

    int copy(int s, int i, int t, int j, int n) {
        if (!in(s, 0, 3) || !in(t, 0, 3)) {
            return no(0);
        }
        if (sheets[s] == null || sheets[t] == null) {
            return no(5);
        }
        if (sorts[s] != sorts[t]) {
            return no(2);
        }
        if (i < 0 || j < 0 || n < 0 || (long) i + n > sheets[s].length || (long) j + n > sheets[t].length) {
            return no(0);
        }
        long[] was = sheets[s].clone();
        for (int k = 0; k < n; k++) {
            sheets[t][j + k] = was[i + k];
        }
        return n;
    }

    int hold(int spot, int what, int n) {
        if (!in(spot, 0, 9) || !in(what, 0, 3) || what == 0 && !is(n) || what == 2 && !in(n, 0, 3)) {
            return no(0);
        }
        spots[spot] = what == 0 ? (Object) n : what == 1 ? now.term : what == 2 ? sheets[n] : null;
        spotSorts[spot] = what == 2 ? sorts[n] : 0;
        return 1;
    }

    private boolean holds(int spot) {
        return spots[spot] != null && !(spots[spot] instanceof Integer f && !is(f));
    }

    int taken(int spot, int as) {
        if (!in(spot, 0, 9) || !in(as, 0, 10)) {
            return no(0);
        }
        if (!holds(spot)) {
            return no(5);
        }
        if (spots[spot] instanceof Integer f) {
            String[] under = {"0", "01", "02", "013", "024", "025", "0136"};
            return under[now.all.get(f).kind].indexOf('0' + as) >= 0 && as < 7 ? f : no(2);
        }
        if (spots[spot] instanceof Q x) {
            return as == 7 ? x.cut().intValueExact() : no(2);
        }
        return as == 8 + spotSorts[spot] ? ((long[]) spots[spot]).length : no(2);
    }

    int image() {
        kept = now.twin();
        return 1;
    }

    int back() {
        if (kept == null) {
            return no(3);
        }
        now = kept.twin();
        return now.all.size();
    }

    int count(int what) {
        switch (what) {
            case 0: return now.all.size();
            case 1: return now.most;
            case 2: return now.rounds;
            case 3: return now.z;
            case 4: return pieceRows.size();
            case 5:
                int sum = 0;
                for (int i = 0; i < 10; i++) {
                    sum += holds(i) ? 1 : 0;
                }
                return sum;
            case 6: return breakList(-1, now.most).size() + 1;
            case 7: return now.ledger.bitLength() < 32 ? now.ledger.intValueExact() : no(7);
            default: return no(0);
        }
    }

    int status(int which) {
        if (!in(which, -1, 7)) {
            return no(0);
        }
        int sum = 0;
        for (int i = 0; i < 8; i++) {
            sum += which == -1 || which == i ? told[i] : 0;
        }
        return sum;
    }
}
