import java.util.ArrayList;
import java.util.List;

/** Plain linear algebra over Q: the only point of equations, and whether inequalities can hold. */
final class Linear {
    private Linear() {
    }

    /** Each equation: coefficients, then the right side. The only solution, or null. */
    static Q[] onlyPoint(List<Q[]> equations, int unknowns) {
        List<Q[]> rows = new ArrayList<>();
        for (Q[] e : equations) {
            rows.add(e.clone());
        }
        int done = 0;
        for (int c = 0; c < unknowns; c++) {
            int pivot = -1;
            for (int r = done; r < rows.size(); r++) {
                if (rows.get(r)[c].sign() != 0) {
                    pivot = r;
                    break;
                }
            }
            if (pivot < 0) {
                return null;
            }
            Q[] top = rows.remove(pivot);
            Q lead = top[c];
            for (int i = 0; i <= unknowns; i++) {
                top[i] = top[i].by(lead);
            }
            for (Q[] r : rows) {
                Q times = r[c];
                for (int i = 0; i <= unknowns; i++) {
                    r[i] = r[i].minus(top[i].times(times));
                }
            }
            rows.add(done, top);
            done++;
        }
        for (int r = done; r < rows.size(); r++) {
            if (rows.get(r)[unknowns].sign() != 0) {
                return null;
            }
        }
        Q[] point = new Q[unknowns];
        for (int c = 0; c < unknowns; c++) {
            point[c] = rows.get(c)[unknowns];
        }
        return point;
    }

    /** Each row: coefficients, then the right side; equal: sums are just so; least: sums are no less. */
    static boolean canHold(List<Q[]> equal, List<Q[]> least, int unknowns) {
        List<Q[]> eq = copyOf(equal);
        List<Q[]> ge = copyOf(least);
        for (int c = 0; c < unknowns; c++) {
            Q[] pivot = null;
            for (Q[] e : eq) {
                if (e[c].sign() != 0) {
                    pivot = e;
                    break;
                }
            }
            if (pivot != null) {
                eq.remove(pivot);
                for (Q[] e : eq) {
                    strike(e, pivot, c);
                }
                for (Q[] g : ge) {
                    strike(g, pivot, c);
                }
            } else {
                ge = eliminate(ge, c);
            }
        }
        for (Q[] e : eq) {
            if (e[unknowns].sign() != 0) {
                return false;
            }
        }
        for (Q[] g : ge) {
            if (g[unknowns].sign() > 0) {
                return false;
            }
        }
        return true;
    }

    private static List<Q[]> copyOf(List<Q[]> rows) {
        List<Q[]> out = new ArrayList<>();
        for (Q[] r : rows) {
            out.add(r.clone());
        }
        return out;
    }

    private static void strike(Q[] row, Q[] pivot, int c) {
        Q times = row[c].by(pivot[c]);
        for (int i = 0; i < row.length; i++) {
            row[i] = row[i].minus(pivot[i].times(times));
        }
    }

    /** Fourier and Motzkin's way: each lower side against each upper side. */
    private static List<Q[]> eliminate(List<Q[]> rows, int c) {
        List<Q[]> out = new ArrayList<>();
        for (Q[] a : rows) {
            if (a[c].sign() == 0) {
                addOnce(out, a);
            }
            for (Q[] b : rows) {
                if (a[c].sign() > 0 && b[c].sign() < 0) {
                    Q[] sum = new Q[a.length];
                    for (int i = 0; i < a.length; i++) {
                        sum[i] = a[i].by(a[c]).minus(b[i].by(b[c]));
                    }
                    addOnce(out, sum);
                }
            }
        }
        return out;
    }

    private static void addOnce(List<Q[]> rows, Q[] row) {
        for (Q[] r : rows) {
            if (java.util.Arrays.equals(r, row)) {
                return;
            }
        }
        rows.add(row);
    }
}
