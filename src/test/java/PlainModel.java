import java.math.BigInteger;
import java.util.ArrayDeque;
import java.util.ArrayList;
import java.util.Arrays;
import java.util.Deque;
import java.util.HashSet;
import java.util.List;
import java.util.Set;

/**
 * The document's words in their plainest form: every whole gone over, every road walked, every
 * state kept. Slow, and written apart from the program, so that the two can be held together.
 */
final class PlainModel {
    static final int BAD = -1, RING = -2, MANY = -3, ROUGH = -4, NOUGHT = -5;

    static final class Thing {
        int values;
        int total;
        List<Integer> parents = new ArrayList<>();
        int[][] table;
        int seen = -1;
        int done = -1;
        int[] force;

        Thing copy() {
            Thing t = new Thing();
            t.values = values;
            t.total = total;
            t.parents = new ArrayList<>(parents);
            t.table = new int[table.length][];
            for (int r = 0; r < table.length; r++) t.table[r] = table[r].clone();
            t.seen = seen;
            t.done = done;
            t.force = force.clone();
            return t;
        }
    }

    static final class State {
        List<Thing> things = new ArrayList<>();
        /** worths.get(o)[x][value] */
        List<int[][]> worths = new ArrayList<>();

        State copy() {
            State s = new State();
            for (Thing t : things) s.things.add(t.copy());
            for (int[][] w : worths) {
                int[][] c = new int[w.length][];
                for (int x = 0; x < w.length; x++) c[x] = w[x].clone();
                s.worths.add(c);
            }
            return s;
        }
    }

    State now = new State();
    Deque<State> before = new ArrayDeque<>();
    BigInteger up = BigInteger.ZERO, down = BigInteger.ZERO;
    int[] shown = new int[0];

    // ---- the web

    int thing(int values, int total) {
        if (values < 2 || values > 4 || total < 1 || total > 100) return BAD;
        long v = values, t = total;
        for (Thing x : now.things) { v *= x.values; t *= x.total; }
        if (now.things.size() == 12 || v > 20000 || t > 1000000000L) return MANY;
        Thing x = new Thing();
        x.values = values;
        x.total = total;
        x.force = new int[values];
        Arrays.fill(x.force, 1);
        now.things.add(x);
        fresh(now, x);
        before.clear();
        return now.things.size() - 1;
    }

    int arrow(int a, int b) {
        if (!isThing(a) || !isThing(b) || a == b || of(b).parents.contains(a)) return BAD;
        if (leads(now, b, a)) return RING;
        if (of(b).parents.size() == 3) return MANY;
        keep();
        of(b).parents.add(a);
        fresh(now, of(b));
        return of(b).parents.size();
    }

    int cut(int a, int b) {
        if (!isThing(a) || !isThing(b) || !of(b).parents.contains(a)) return BAD;
        keep();
        of(b).parents.remove(Integer.valueOf(a));
        fresh(now, of(b));
        return of(b).parents.size();
    }

    int weight(int x, int row, int value, int w) {
        if (!isWeight(x, row, value) || w < 0 || w > of(x).total) return BAD;
        keep();
        int old = of(x).table[row][value];
        of(x).table[row][value] = w;
        return old;
    }

    int told(int x, int row, int value) {
        return isWeight(x, row, value) ? of(x).table[row][value] : BAD;
    }

    int about(int x, int what) {
        if (!isThing(x) || what < 0 || what > 6) return BAD;
        Thing t = of(x);
        return new int[] {t.values, t.total, t.parents.size(), t.table.length, isSound(t) ? 1 : 0, t.seen, t.done}[what];
    }

    int parent(int x, int k) {
        if (!isThing(x) || k < 0 || k >= of(x).parents.size()) return -2;
        return of(x).parents.get(k);
    }

    int sound() { return isSound() ? 1 : 0; }

    // ---- what is known

    int see(int x, int value) {
        if (!isThing(x) || value < -1 || value >= of(x).values) return BAD;
        keep();
        of(x).seen = value;
        of(x).done = -1;
        return 1;
    }

    int act(int x, int value) {
        if (!isThing(x) || value < -1 || value >= of(x).values) return BAD;
        keep();
        of(x).done = value;
        of(x).seen = -1;
        return 1;
    }

    int force(int x, int value, int f) {
        if (!isValue(x, value) || f < 0 || f > 3) return BAD;
        keep();
        int old = of(x).force[value];
        of(x).force[value] = f;
        return old;
    }

    // ---- what is asked

    int chance() {
        if (!isSound()) return ROUGH;
        BigInteger all = BigInteger.ONE;
        for (Thing t : now.things) all = all.multiply(BigInteger.valueOf(t.total));
        tell(sum(now, -1, 0, -1, 0), all);
        return 1;
    }

    int ask(int x, int value) {
        if (!isValue(x, value)) return BAD;
        return chanceOf(x, value, x, value);
    }

    int both(int x, int v, int y, int w) {
        if (!isValue(x, v) || !isValue(y, w)) return BAD;
        return chanceOf(x, v, y, w);
    }

    long up() { return up.longValueExact(); }

    long down() { return down.longValueExact(); }

    int most(int x) {
        if (!isThing(x)) return BAD;
        if (!isSound()) return ROUGH;
        if (sum(now, -1, 0, -1, 0).signum() == 0) return NOUGHT;
        int best = 0;
        for (int v = 0; v < of(x).values; v++) {
            if (sum(now, x, v, x, v).compareTo(sum(now, x, best, x, best)) > 0) best = v;
        }
        return best;
    }

    int likeliest(int k) {
        if (k < 0 || k > 9) return BAD;
        if (!isSound()) return ROUGH;
        List<int[]> all = new ArrayList<>();
        for (int[] w : wholesOf(now)) if (likelihood(now, w) > 0) all.add(w);
        // The sort is stable and the wholes come in the order of their values.
        all.sort((p, q) -> Long.compare(likelihood(now, q), likelihood(now, p)));
        if (k >= all.size()) return 0;
        shown = all.get(k);
        tell(BigInteger.valueOf(likelihood(now, shown)), sum(now, -1, 0, -1, 0));
        return 1;
    }

    int at(int x) { return x < 0 || x >= shown.length ? -2 : shown[x]; }

    int wholes() {
        if (!isSound()) return ROUGH;
        int n = 0;
        for (int[] w : wholesOf(now)) if (likelihood(now, w) > 0) n++;
        return n;
    }

    int apart(int x, int y) {
        if (!isThing(x) || !isThing(y)) return BAD;
        if (x == y) return 0;
        List<Integer> road = new ArrayList<>();
        road.add(x);
        return openRoad(road, y) ? 0 : 1;
    }

    // ---- options

    int options(int n) {
        if (n < 0 || n > 6) return BAD;
        keep();
        int old = now.worths.size();
        while (now.worths.size() > n) now.worths.remove(now.worths.size() - 1);
        while (now.worths.size() < n) now.worths.add(new int[12][4]);
        return old;
    }

    int worth(int o, int x, int value, int u) {
        if (!isOption(o) || !isValue(x, value) || u < -500 || u > 500) return 10000;
        keep();
        int old = now.worths.get(o)[x][value];
        now.worths.get(o)[x][value] = u;
        return old;
    }

    int expected(int o) {
        if (!isOption(o)) return BAD;
        if (!isSound()) return ROUGH;
        if (sum(now, -1, 0, -1, 0).signum() == 0) return NOUGHT;
        BigInteger[] e = expectedIn(now, o);
        tell(e[0], e[1]);
        return 1;
    }

    int best() {
        if (now.worths.isEmpty()) return BAD;
        if (!isSound()) return ROUGH;
        if (sum(now, -1, 0, -1, 0).signum() == 0) return NOUGHT;
        int b = bestIn(now);
        BigInteger[] e = expectedIn(now, b);
        tell(e[0], e[1]);
        return b;
    }

    int gain(int x) {
        if (!isThing(x) || now.worths.isEmpty()) return BAD;
        if (!isSound()) return ROUGH;
        if (sum(now, -1, 0, -1, 0).signum() == 0) return NOUGHT;
        BigInteger[] g = gainOf(x);
        tell(g[0], g[1]);
        return 1;
    }

    int next() {
        if (now.worths.isEmpty()) return BAD;
        if (!isSound()) return ROUGH;
        if (sum(now, -1, 0, -1, 0).signum() == 0) return NOUGHT;
        int found = -6;
        BigInteger[] most = null;
        for (int x = 0; x < now.things.size(); x++) {
            if (of(x).seen >= 0 || of(x).done >= 0) continue;
            BigInteger[] g = gainOf(x);
            if (most == null || compare(g, most) > 0) { found = x; most = g; }
        }
        if (most != null) tell(most[0], most[1]);
        return found;
    }

    // ---- back

    int undo() {
        if (before.isEmpty()) return BAD;
        now = before.removeLast();
        return before.size();
    }

    int count(int what) {
        switch (what) {
            case 0: return now.things.size();
            case 1: {
                int n = 0;
                for (Thing t : now.things) n += t.parents.size();
                return n;
            }
            case 2: return now.worths.size();
            case 3: return before.size();
            default: return BAD;
        }
    }

    // ---- below

    private Thing of(int x) { return now.things.get(x); }

    private boolean isThing(int x) { return x >= 0 && x < now.things.size(); }

    private boolean isValue(int x, int v) { return isThing(x) && v >= 0 && v < of(x).values; }

    private boolean isWeight(int x, int row, int v) { return isValue(x, v) && row >= 0 && row < of(x).table.length; }

    private boolean isOption(int o) { return o >= 0 && o < now.worths.size(); }

    private void keep() {
        before.addLast(now.copy());
        if (before.size() > 100) before.removeFirst();
    }

    private static void fresh(State s, Thing t) {
        int rows = 1;
        for (int p : t.parents) rows *= s.things.get(p).values;
        t.table = new int[rows][t.values];
        for (int[] row : t.table) row[0] = t.total;
    }

    private static boolean leads(State s, int from, int to) {
        if (from == to) return true;
        for (int p : s.things.get(to).parents) if (leads(s, from, p)) return true;
        return false;
    }

    private static boolean isSound(Thing t) {
        for (int[] row : t.table) {
            int sum = 0;
            for (int w : row) sum += w;
            if (sum != t.total) return false;
        }
        return true;
    }

    private boolean isSound() {
        for (Thing t : now.things) if (t.done < 0 && !isSound(t)) return false;
        return !now.things.isEmpty();
    }

    private static List<int[]> wholesOf(State s) {
        List<int[]> all = new ArrayList<>();
        all.add(new int[0]);
        for (Thing t : s.things) {
            List<int[]> longer = new ArrayList<>();
            for (int[] w : all) {
                for (int v = 0; v < t.values; v++) {
                    int[] c = Arrays.copyOf(w, w.length + 1);
                    c[w.length] = v;
                    longer.add(c);
                }
            }
            all = longer;
        }
        return all;
    }

    private static long likelihood(State s, int[] whole) {
        long product = 1;
        for (int x = 0; x < whole.length; x++) {
            Thing t = s.things.get(x);
            product *= t.force[whole[x]];
            if (t.done >= 0) {
                product *= t.done == whole[x] ? t.total : 0;
            } else {
                int row = 0;
                for (int p : t.parents) row = row * s.things.get(p).values + whole[p];
                product *= t.table[row][whole[x]];
                if (t.seen >= 0 && t.seen != whole[x]) product = 0;
            }
        }
        return product;
    }

    private static BigInteger sum(State s, int x, int v, int y, int w) {
        BigInteger sum = BigInteger.ZERO;
        for (int[] whole : wholesOf(s)) {
            if (x >= 0 && whole[x] != v || y >= 0 && whole[y] != w) continue;
            sum = sum.add(BigInteger.valueOf(likelihood(s, whole)));
        }
        return sum;
    }

    private int chanceOf(int x, int v, int y, int w) {
        if (!isSound()) return ROUGH;
        BigInteger sum = sum(now, -1, 0, -1, 0);
        if (sum.signum() == 0) return NOUGHT;
        tell(sum(now, x, v, y, w), sum);
        return 1;
    }

    private void tell(BigInteger a, BigInteger b) {
        BigInteger g = a.gcd(b);
        up = a.divide(g);
        down = b.divide(g);
    }

    private static int compare(BigInteger[] p, BigInteger[] q) {
        return p[0].multiply(q[1]).compareTo(q[0].multiply(p[1]));
    }

    private static BigInteger[] expectedIn(State s, int o) {
        BigInteger top = BigInteger.ZERO, bottom = BigInteger.ZERO;
        for (int[] whole : wholesOf(s)) {
            long worth = 0;
            for (int x = 0; x < whole.length; x++) worth += s.worths.get(o)[x][whole[x]];
            BigInteger l = BigInteger.valueOf(likelihood(s, whole));
            bottom = bottom.add(l);
            top = top.add(l.multiply(BigInteger.valueOf(worth)));
        }
        return new BigInteger[] {top, bottom};
    }

    private static int bestIn(State s) {
        int b = 0;
        BigInteger[] most = expectedIn(s, 0);
        for (int o = 1; o < s.worths.size(); o++) {
            BigInteger[] e = expectedIn(s, o);
            if (compare(e, most) > 0) { b = o; most = e; }
        }
        return b;
    }

    private BigInteger[] gainOf(int x) {
        if (of(x).seen >= 0 || of(x).done >= 0) return new BigInteger[] {BigInteger.ZERO, BigInteger.ONE};
        BigInteger all = sum(now, -1, 0, -1, 0);
        BigInteger[] g = {BigInteger.ZERO, BigInteger.ONE};
        for (int v = 0; v < of(x).values; v++) {
            BigInteger share = sum(now, x, v, x, v);
            if (share.signum() == 0) continue;
            State then = now.copy();
            then.things.get(x).seen = v;
            BigInteger[] e = expectedIn(then, bestIn(then));
            g = plus(g, e[0].multiply(share), e[1].multiply(all));
        }
        BigInteger[] e = expectedIn(now, bestIn(now));
        return plus(g, e[0].negate(), e[1]);
    }

    private static BigInteger[] plus(BigInteger[] p, BigInteger top, BigInteger bottom) {
        return new BigInteger[] {p[0].multiply(bottom).add(top.multiply(p[1])), p[1].multiply(bottom)};
    }

    private boolean arrowNow(int a, int b) { return of(b).done < 0 && of(b).parents.contains(a); }

    private boolean seenBelow(int x, Set<Integer> been) {
        if (!been.add(x)) return false;
        if (of(x).seen >= 0) return true;
        for (int y = 0; y < now.things.size(); y++) if (arrowNow(x, y) && seenBelow(y, been)) return true;
        return false;
    }

    private boolean openRoad(List<Integer> road, int to) {
        int last = road.get(road.size() - 1);
        if (last == to) return isOpen(road);
        for (int y = 0; y < now.things.size(); y++) {
            if (road.contains(y) || !arrowNow(last, y) && !arrowNow(y, last)) continue;
            road.add(y);
            boolean found = openRoad(road, to);
            road.remove(road.size() - 1);
            if (found) return true;
        }
        return false;
    }

    private boolean isOpen(List<Integer> road) {
        for (int i = 1; i + 1 < road.size(); i++) {
            int t = road.get(i);
            if (arrowNow(road.get(i - 1), t) && arrowNow(road.get(i + 1), t)) {
                if (!seenBelow(t, new HashSet<>())) return false;
            } else if (of(t).seen >= 0 || of(t).done >= 0) {
                return false;
            }
        }
        return true;
    }
}
