import java.math.BigInteger;
import java.util.ArrayList;
import java.util.Arrays;
import java.util.List;

/**
 * The document once more, written for plainness alone and by other ways than the program's: hulls
 * built from points, fractions in elimination, all points of LEAST tried.
 */
final class Model {
    private final List<int[]> corners = new ArrayList<>();
    private final List<int[]> patches = new ArrayList<>();
    private final int[][] table = new int[8][8];
    private int parts = 100;
    private int status = 0;
    private String out = "";

    private static final int KIND = 0;
    private static final int FIRST = 1;
    private static final int SECOND = 2;
    private static final int TOP = 3;
    private static final int BOTTOM = 4;
    private static final int OWN = 5;
    private static final int WANTED = 6;
    private static final int PRICE = 7;
    private static final int MOST = 8;

    int status() {
        return status;
    }

    int out(int k) {
        return k >= 0 && k < out.length() ? out.charAt(k) : -1;
    }

    private boolean fails(int... statuses) {
        status = 0;
        for (int s : statuses) {
            if (s != 0 && (status == 0 || s < status)) {
                status = s;
            }
        }
        return status != 0;
    }

    private static int when(boolean holds, int s) {
        return holds ? s : 0;
    }

    private int noPatch(int p) {
        return when(p < 0 || p >= patches.size(), 1);
    }

    private int noCorner(int c) {
        return when(c < 0 || c >= corners.size(), 1);
    }

    private static int notFrom(long least, long n, long most) {
        return when(n < least || n > most, 2);
    }

    private int fact(int p, int what) {
        return patches.get(p)[what];
    }

    int corner(int x, int y) {
        boolean there = false;
        for (int[] c : corners) {
            there |= c[0] == x && c[1] == y;
        }
        if (fails(notFrom(-1000, x, 1000), notFrom(-1000, y, 1000), when(corners.size() == 24, 3), when(there, 4))) {
            return -1;
        }
        corners.add(new int[] {x, y});
        return corners.size() - 1;
    }

    int patch(int from, int to, int kind) {
        if (fails(noCorner(from), noCorner(to), when(from == to, 1))) {
            return -1;
        }
        int lamps = 0;
        boolean meets = false;
        for (int p = 0; p < patches.size(); p++) {
            lamps += fact(p, KIND) == 1 ? 1 : 0;
            meets |= meets(from, to, fact(p, FIRST), fact(p, SECOND));
        }
        if (fails(notFrom(0, kind, 2), when(patches.size() == 8, 3), when(kind == 1 && lamps == 3, 5), when(meets, 7))) {
            return -1;
        }
        patches.add(new int[] {kind, from, to, 0, 1, 0, 0, 1, 10000});
        return patches.size() - 1;
    }

    /** By lines: the common points of two pieces, solved for; they may only be one corner of both. */
    private boolean meets(int a, int b, int c, int d) {
        long rx = x(b) - x(a);
        long ry = y(b) - y(a);
        long sx = x(d) - x(c);
        long sy = y(d) - y(c);
        long qx = x(c) - x(a);
        long qy = y(c) - y(a);
        long det = rx * sy - ry * sx;
        if (det != 0) {
            Fraction t = Fraction.of(qx * sy - qy * sx, det);
            Fraction u = Fraction.of(qx * ry - qy * rx, det);
            boolean common = t.sign() >= 0 && t.compareTo(Fraction.ONE) <= 0
                && u.sign() >= 0 && u.compareTo(Fraction.ONE) <= 0;
            boolean endOfFirst = t.sign() == 0 || t.compareTo(Fraction.ONE) == 0;
            boolean endOfSecond = u.sign() == 0 || u.compareTo(Fraction.ONE) == 0;
            return common && !(endOfFirst && endOfSecond);
        }
        if (qx * ry - qy * rx != 0) {
            return false;
        }
        long along = rx * rx + ry * ry;
        Fraction tc = Fraction.of(qx * rx + qy * ry, along);
        Fraction td = tc.plus(Fraction.of(sx * rx + sy * ry, along));
        Fraction low = tc.compareTo(td) < 0 ? tc : td;
        Fraction high = tc.compareTo(td) < 0 ? td : tc;
        low = low.compareTo(Fraction.ZERO) < 0 ? Fraction.ZERO : low;
        high = high.compareTo(Fraction.ONE) > 0 ? Fraction.ONE : high;
        return low.compareTo(high) < 0;
    }

    private long x(int corner) {
        return corners.get(corner)[0];
    }

    private long y(int corner) {
        return corners.get(corner)[1];
    }

    boolean on(int p, int n, int d) {
        if (fails(noPatch(p)) || fails(notFrom(1, d, 100), notFrom(0, n, d - 1L), when(fact(p, KIND) == 2 && n != 0, 5))) {
            return false;
        }
        patches.get(p)[TOP] = n;
        patches.get(p)[BOTTOM] = d;
        return true;
    }

    boolean own(int p, int light) {
        if (fails(noPatch(p)) || fails(notFrom(0, light, 10000), when(fact(p, KIND) == 0 && light != 0, 5))) {
            return false;
        }
        patches.get(p)[OWN] = light;
        return true;
    }

    int told(int p, int what) {
        return fails(noPatch(p), notFrom(0, what, 8)) ? -1 : fact(p, what);
    }

    int sight(int a, int b) {
        return fails(noPatch(a), noPatch(b), when(a == b, 1)) ? -1 : sightOf(a, b);
    }

    private int left(int p, int corner) {
        int a = fact(p, FIRST);
        int b = fact(p, SECOND);
        return Long.signum(cross(x(a), y(a), x(b), y(b), x(corner), y(corner)));
    }

    private static long cross(long ax, long ay, long bx, long by, long px, long py) {
        return (bx - ax) * (py - ay) - (by - ay) * (px - ax);
    }

    private int sightOf(int a, int b) {
        int[] ofB = {left(a, fact(b, FIRST)), left(a, fact(b, SECOND))};
        int[] ofA = {left(b, fact(a, FIRST)), left(b, fact(a, SECOND))};
        if (ofB[0] != 1 && ofB[1] != 1 || ofA[0] != 1 && ofA[1] != 1) {
            return 0;
        }
        boolean whole = ofA[0] >= 0 && ofA[1] >= 0 && ofB[0] >= 0 && ofB[1] >= 0;
        List<int[]> hull = hull(fact(a, FIRST), fact(a, SECOND), fact(b, FIRST), fact(b, SECOND));
        for (int p = 0; p < patches.size(); p++) {
            if (p != a && p != b && goesInto(hull, corners.get(fact(p, FIRST)), corners.get(fact(p, SECOND)))) {
                whole = false;
            }
        }
        return whole ? 2 : 1;
    }

    /** The edges of the least convex piece: those two corners that have no corner to their right. */
    private List<int[]> hull(int... four) {
        List<int[]> edges = new ArrayList<>();
        for (int s : four) {
            for (int t : four) {
                boolean edge = s != t;
                for (int p : four) {
                    edge &= cross(x(s), y(s), x(t), y(t), x(p), y(p)) >= 0;
                }
                if (edge) {
                    edges.add(new int[] {(int) x(s), (int) y(s), (int) x(t), (int) y(t)});
                }
            }
        }
        return edges;
    }

    /** Cuts the piece at all edges' lines; one of the cuts' middles is inside, or none of it is. */
    private static boolean goesInto(List<int[]> hull, int[] from, int[] to) {
        List<Fraction> cuts = new ArrayList<>(List.of(Fraction.ZERO, Fraction.ONE));
        for (int[] e : hull) {
            long p = cross(e[0], e[1], e[2], e[3], from[0], from[1]);
            long q = cross(e[0], e[1], e[2], e[3], to[0], to[1]);
            if (p != q) {
                Fraction t = Fraction.of(p, p - q);
                if (t.sign() > 0 && t.compareTo(Fraction.ONE) < 0) {
                    cuts.add(t);
                }
            }
        }
        cuts.sort(null);
        List<Fraction> tries = new ArrayList<>(cuts);
        for (int i = 1; i < cuts.size(); i++) {
            tries.add(cuts.get(i).plus(cuts.get(i - 1)).times(Fraction.of(1, 2)));
        }
        for (Fraction t : tries) {
            boolean inside = !hull.isEmpty();
            for (int[] e : hull) {
                Fraction p = Fraction.of(cross(e[0], e[1], e[2], e[3], from[0], from[1]));
                Fraction q = Fraction.of(cross(e[0], e[1], e[2], e[3], to[0], to[1]));
                inside &= p.plus(q.minus(p).times(t)).sign() > 0;
            }
            if (inside) {
                return true;
            }
        }
        return false;
    }

    private BigInteger string(int c, int d, int k, boolean up) {
        long dx = x(c) - x(d);
        long dy = y(c) - y(d);
        BigInteger square = BigInteger.valueOf(dx * dx + dy * dy).multiply(BigInteger.valueOf(4).pow(k));
        BigInteger root = square.sqrt();
        return up && !root.multiply(root).equals(square) ? root.add(BigInteger.ONE) : root;
    }

    long length(int p, int k, boolean up) {
        return fails(noPatch(p), notFrom(0, k, 20)) ? -1 : string(fact(p, FIRST), fact(p, SECOND), k, up).longValueExact();
    }

    private BigInteger crossed(int a, int b, int k, boolean up) {
        return string(fact(a, FIRST), fact(b, FIRST), k, up).add(string(fact(a, SECOND), fact(b, SECOND), k, up));
    }

    private BigInteger uncrossed(int a, int b, int k, boolean up) {
        return string(fact(a, FIRST), fact(b, SECOND), k, up).add(string(fact(a, SECOND), fact(b, FIRST), k, up));
    }

    int share(int a, int b, int k, boolean high) {
        if (fails(noPatch(a), noPatch(b), when(a == b, 1)) || fails(notFrom(0, k, 20), when(sightOf(a, b) != 2, 6))) {
            return -1;
        }
        BigInteger more = crossed(a, b, k, high).subtract(uncrossed(a, b, k, !high)).max(BigInteger.ZERO);
        BigInteger twice = string(fact(a, FIRST), fact(a, SECOND), k, !high).shiftLeft(1);
        BigInteger[] share = more.shiftLeft(k).divideAndRemainder(twice);
        return share[0].intValueExact() + (high && share[1].signum() > 0 ? 1 : 0);
    }

    int crossed(int a, int b) {
        if (fails(noPatch(a), noPatch(b), when(a == b, 1))) {
            return -1;
        }
        long more = crossed(a, b, 20, false).subtract(uncrossed(a, b, 20, false)).longValueExact();
        return more > 4 ? 1 : more < -4 ? -1 : 0;
    }

    boolean parts(int many) {
        if (fails(notFrom(1, many, 1000))) {
            return false;
        }
        parts = many;
        for (int[] row : table) {
            Arrays.fill(row, 0);
        }
        return true;
    }

    boolean table(int i, int j, int part) {
        if (fails(noPatch(i), noPatch(j))) {
            return false;
        }
        long together = part - (long) table[i][j];
        for (int p : table[i]) {
            together += p;
        }
        if (fails(notFrom(0, part, parts), notFrom(0, together, parts))) {
            return false;
        }
        table[i][j] = part;
        return true;
    }

    private Fraction given(int i, int j) {
        return Fraction.of(fact(i, TOP), fact(i, BOTTOM)).times(Fraction.of(table[i][j], parts));
    }

    private Fraction[] lights(Fraction[] owns) {
        int n = patches.size();
        Fraction[][] rows = new Fraction[n][n + 1];
        for (int i = 0; i < n; i++) {
            for (int j = 0; j < n; j++) {
                rows[i][j] = Fraction.of(i == j ? 1 : 0).minus(given(i, j));
            }
            rows[i][n] = owns[i];
        }
        Fraction[] found = solve(rows);
        if (found == null) {
            throw new IllegalStateException("the light has no answer");
        }
        return found;
    }

    /** Elimination with a search for a pivot; null if there is none. */
    private static Fraction[] solve(Fraction[][] rows) {
        int n = rows.length;
        for (int k = 0; k < n; k++) {
            int pivot = k;
            while (pivot < n && rows[pivot][k].sign() == 0) {
                pivot++;
            }
            if (pivot == n) {
                return null;
            }
            Fraction[] row = rows[pivot];
            rows[pivot] = rows[k];
            rows[k] = row;
            for (int i = 0; i < n; i++) {
                if (i != k && rows[i][k].sign() != 0) {
                    Fraction times = rows[i][k].by(row[k]);
                    for (int j = k; j <= n; j++) {
                        rows[i][j] = rows[i][j].minus(times.times(row[j]));
                    }
                }
            }
        }
        Fraction[] found = new Fraction[n];
        for (int i = 0; i < n; i++) {
            found[i] = rows[i][n].by(rows[i][i]);
        }
        return found;
    }

    private Fraction[] owns() {
        Fraction[] owns = new Fraction[patches.size()];
        for (int p = 0; p < owns.length; p++) {
            owns[p] = Fraction.of(fact(p, OWN));
        }
        return owns;
    }

    private int tell(Fraction f) {
        out = f.toString();
        return out.length();
    }

    int light(int p) {
        return fails(noPatch(p)) ? -1 : tell(lights(owns())[p]);
    }

    private Fraction bounceOf(int p, int t) {
        Fraction[] now = owns();
        for (int i = 0; i < t; i++) {
            Fraction[] next = owns();
            for (int a = 0; a < now.length; a++) {
                for (int b = 0; b < now.length; b++) {
                    next[a] = next[a].plus(given(a, b).times(now[b]));
                }
            }
            now = next;
        }
        return now[p];
    }

    int bounce(int p, int t) {
        return fails(noPatch(p), notFrom(0, t, 6)) ? -1 : tell(bounceOf(p, t));
    }

    int pull(int i, int j) {
        return fails(noPatch(i), noPatch(j)) ? -1 : tell(pulls(j)[i]);
    }

    private Fraction[] pulls(int j) {
        Fraction[] one = new Fraction[patches.size()];
        Arrays.fill(one, Fraction.ZERO);
        one[j] = Fraction.ONE;
        return lights(one);
    }

    int enough(int p) {
        if (fails(noPatch(p))) {
            return -1;
        }
        Fraction wanted = Fraction.of(fact(p, WANTED));
        for (int t = 0; t <= 6; t++) {
            if (bounceOf(p, t).compareTo(wanted) >= 0) {
                return t;
            }
        }
        return 8 - lights(owns())[p].compareTo(wanted);
    }

    boolean want(int p, int light) {
        if (fails(noPatch(p), notFrom(0, light, 100000))) {
            return false;
        }
        patches.get(p)[WANTED] = light;
        return true;
    }

    boolean price(int p, int price, int most) {
        if (fails(noPatch(p)) || fails(notFrom(0, price, 1000), notFrom(0, most, 10000), when(fact(p, KIND) != 1, 5))) {
            return false;
        }
        patches.get(p)[PRICE] = price;
        patches.get(p)[MOST] = most;
        return true;
    }

    int least() {
        Fraction[] best = leastOwns();
        return fails(when(best == null, 8)) ? -1 : tell(priceOf(best));
    }

    int power(int p) {
        if (fails(noPatch(p)) || fails(when(fact(p, KIND) != 1, 5))) {
            return -1;
        }
        Fraction[] best = leastOwns();
        return fails(when(best == null, 8)) ? -1 : tell(best[lamps().indexOf(p)]);
    }

    private List<Integer> lamps() {
        List<Integer> lamps = new ArrayList<>();
        for (int p = 0; p < patches.size(); p++) {
            if (fact(p, KIND) == 1) {
                lamps.add(p);
            }
        }
        return lamps;
    }

    private Fraction priceOf(Fraction[] owns) {
        Fraction sum = Fraction.ZERO;
        for (int i = 0; i < owns.length; i++) {
            sum = sum.plus(owns[i].times(Fraction.of(fact(lamps().get(i), PRICE))));
        }
        return sum;
    }

    /** Of all points where as many of the rows as there are lamps hold just so, the first of the cheapest. */
    private Fraction[] leastOwns() {
        List<Fraction[]> rows = leastRows();
        int n = lamps().size();
        Fraction[] best = null;
        for (int mask = 0; mask < 1 << rows.size(); mask++) {
            if (Integer.bitCount(mask) != n) {
                continue;
            }
            Fraction[][] held = new Fraction[n][];
            int many = 0;
            for (int r = 0; r < rows.size(); r++) {
                if ((mask >> r & 1) == 1) {
                    held[many++] = rows.get(r).clone();
                }
            }
            Fraction[] point = solve(held);
            if (point != null && holds(rows, point) && (best == null || isBefore(point, best))) {
                best = point;
            }
        }
        return best;
    }

    private boolean isBefore(Fraction[] a, Fraction[] b) {
        int order = priceOf(a).compareTo(priceOf(b));
        for (int i = 0; i < a.length && order == 0; i++) {
            order = a[i].compareTo(b[i]);
        }
        return order < 0;
    }

    private static boolean holds(List<Fraction[]> rows, Fraction[] point) {
        for (Fraction[] row : rows) {
            Fraction sum = Fraction.ZERO;
            for (int i = 0; i < point.length; i++) {
                sum = sum.plus(row[i].times(point[i]));
            }
            if (sum.compareTo(row[point.length]) < 0) {
                return false;
            }
        }
        return true;
    }

    private List<Fraction[]> leastRows() {
        List<Integer> lamps = lamps();
        int n = lamps.size();
        List<Fraction[]> rows = new ArrayList<>();
        Fraction[] others = owns();
        for (int lamp : lamps) {
            others[lamp] = Fraction.ZERO;
        }
        Fraction[] without = lights(others);
        for (int p = 0; p < patches.size(); p++) {
            rows.add(new Fraction[n + 1]);
            rows.get(p)[n] = Fraction.of(fact(p, WANTED)).minus(without[p]);
        }
        for (int i = 0; i < n; i++) {
            Fraction[] pulls = pulls(lamps.get(i));
            for (int p = 0; p < patches.size(); p++) {
                rows.get(p)[i] = pulls[p];
            }
        }
        for (int i = 0; i < n; i++) {
            Fraction[] low = new Fraction[n + 1];
            Fraction[] high = new Fraction[n + 1];
            Arrays.fill(low, Fraction.ZERO);
            Arrays.fill(high, Fraction.ZERO);
            low[i] = Fraction.ONE;
            high[i] = Fraction.of(-1);
            high[n] = Fraction.of(-fact(lamps.get(i), MOST));
            rows.add(low);
            rows.add(high);
        }
        return rows;
    }
}
