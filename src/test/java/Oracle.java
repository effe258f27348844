import java.math.BigInteger;
import java.util.ArrayList;
import java.util.Arrays;
import java.util.Collections;
import java.util.List;

/** The mountain once more, as plainly and as slowly as the document's words allow: to compare answers with. */
final class Oracle {
    int places;
    int years;
    int lines = 0;
    final int[] height = new int[8];
    final int[] rain = new int[30];
    final List<int[]> paths = new ArrayList<>();
    final List<int[]> brides = new ArrayList<>();
    /** skill, spite, and the brides behind them. */
    final List<int[]> suitors = new ArrayList<>();
    /** leap, place. */
    final List<int[]> walkers = new ArrayList<>();
    int[] courts = new int[0];

    boolean isFor(int s, int b) {
        for (int i = 2; i < suitors.get(s).length; i++) {
            if (suitors.get(s)[i] == b) {
                return true;
            }
        }
        return false;
    }

    int taken(int[] c, int b) {
        List<Integer> rivals = new ArrayList<>();
        for (int s = 0; s < c.length; s++) {
            if (c[s] == b) {
                rivals.add(s);
            }
        }
        rivals.sort((p, q) -> suitors.get(q)[0] != suitors.get(p)[0] ? suitors.get(q)[0] - suitors.get(p)[0] : p - q);
        return rivals.isEmpty() ? -1 : rivals.get(0);
    }

    boolean refused(int[] c, int s) {
        return c[s] >= 0 && taken(c, c[s]) != s;
    }

    int hearts(int[] c) {
        int n = 0;
        for (int s = 0; s < c.length; s++) {
            n += refused(c, s) ? 1 : 0;
        }
        return n;
    }

    int courters(int[] c) {
        int n = 0;
        for (int b : c) {
            n += b >= 0 ? 1 : 0;
        }
        return n;
    }

    List<Integer> steps(int[] c, int p, int y) {
        List<Integer> who = new ArrayList<>();
        for (int s = 0; s < c.length; s++) {
            if (c[s] >= 0 && brides.get(c[s])[0] == p) {
                int behind = y - brides.get(c[s])[1];
                if (behind >= 0 && behind <= suitors.get(s)[0]) {
                    who.add(s);
                }
            }
        }
        return who;
    }

    int drop(int p) {
        return Math.abs(height[paths.get(p)[0]] - height[paths.get(p)[1]]);
    }

    int leapBy(int p, int steps) {
        int leap = 0;
        while (leap * (steps + 1) < drop(p)) {
            leap++;
        }
        return leap;
    }

    int leap(int[] c, int p, int y) {
        return leapBy(p, steps(c, p, y).size());
    }

    int lacks(int[] c, int p, int y, int n) {
        int there = steps(c, p, y).size();
        for (int k = 0; k <= 200; k++) {
            if (leapBy(p, there + k) <= n) {
                return k;
            }
        }
        return -1;
    }

    int fall(int s, int y) {
        return Math.min(100, rain[y] + (refused(courts, s) ? suitors.get(s)[1] : 0));
    }

    /** Above and below, in lowest terms. */
    BigInteger[] chance(List<Integer> along, int y) {
        BigInteger above = BigInteger.ONE;
        BigInteger below = BigInteger.ONE;
        for (int p : along) {
            for (int s : steps(courts, p, y)) {
                above = above.multiply(BigInteger.valueOf(100 - fall(s, y)));
                below = below.multiply(BigInteger.valueOf(100));
            }
        }
        BigInteger g = above.gcd(below);
        return new BigInteger[] {above.divide(g), below.divide(g)};
    }

    int pathOf(int a, int b) {
        for (int p = 0; p < paths.size(); p++) {
            int[] q = paths.get(p);
            if (q[0] == a && q[1] == b || q[0] == b && q[1] == a) {
                return p;
            }
        }
        return -1;
    }

    boolean[] open(int[] c, int leap, int y) {
        boolean[] open = new boolean[paths.size()];
        for (int p = 0; p < open.length; p++) {
            open[p] = leap(c, p, y) <= leap;
        }
        return open;
    }

    int reach(int from, boolean[] open) {
        boolean[][] can = new boolean[places][places];
        for (int a = 0; a < places; a++) {
            can[a][a] = true;
            for (int b = 0; b < places; b++) {
                int p = pathOf(a, b);
                can[a][b] |= p >= 0 && open[p];
            }
        }
        for (int k = 0; k < places; k++) {
            for (int a = 0; a < places; a++) {
                for (int b = 0; b < places; b++) {
                    can[a][b] |= can[a][k] && can[k][b];
                }
            }
        }
        int bits = 0;
        for (int b = 0; b < places; b++) {
            bits |= can[from][b] ? 1 << b : 0;
        }
        return bits;
    }

    int reach(int[] c, int w, int y) {
        return reach(walkers.get(w)[1], open(c, walkers.get(w)[0], y));
    }

    boolean comes(int[] c, int w, int to, int y) {
        return (reach(c, w, y) & 1 << to) != 0;
    }

    List<List<Integer>> ways(int w, int to, int y) {
        List<List<Integer>> all = new ArrayList<>();
        List<List<Integer>> open = new ArrayList<>();
        open.add(List.of(walkers.get(w)[1]));
        boolean[] can = open(courts, walkers.get(w)[0], y);
        while (!open.isEmpty()) {
            List<Integer> way = open.remove(open.size() - 1);
            int last = way.get(way.size() - 1);
            if (last == to) {
                all.add(way);
                continue;
            }
            for (int next = 0; next < places; next++) {
                int p = pathOf(last, next);
                if (p >= 0 && can[p] && !way.contains(next)) {
                    List<Integer> longer = new ArrayList<>(way);
                    longer.add(next);
                    open.add(longer);
                }
            }
        }
        return all;
    }

    List<Integer> along(List<Integer> way) {
        List<Integer> along = new ArrayList<>();
        for (int i = 1; i < way.size(); i++) {
            along.add(pathOf(way.get(i - 1), way.get(i)));
        }
        return along;
    }

    private static int byRow(List<Integer> a, List<Integer> b) {
        if (a.size() != b.size()) {
            return a.size() - b.size();
        }
        for (int i = 0; i < a.size(); i++) {
            if (!a.get(i).equals(b.get(i))) {
                return a.get(i) - b.get(i);
            }
        }
        return 0;
    }

    List<Integer> shortest(int w, int to, int y) {
        List<List<Integer>> all = ways(w, to, y);
        return all.isEmpty() ? null : Collections.min(all, Oracle::byRow);
    }

    List<Integer> safest(int w, int to, int y) {
        List<List<Integer>> all = ways(w, to, y);
        return all.isEmpty() ? null : Collections.min(all, (a, b) -> {
            BigInteger[] f = chance(along(a), y);
            BigInteger[] g = chance(along(b), y);
            int less = g[0].multiply(f[1]).compareTo(f[0].multiply(g[1]));
            return less != 0 ? less : byRow(a, b);
        });
    }

    /** All courtings, in their order. */
    List<int[]> courtings() {
        List<int[]> all = new ArrayList<>();
        int[] c = new int[suitors.size()];
        Arrays.fill(c, -1);
        while (true) {
            all.add(c.clone());
            int s = c.length - 1;
            while (s >= 0) {
                int b = c[s] + 1;
                while (b < brides.size() && !isFor(s, b)) {
                    b++;
                }
                if (b < brides.size()) {
                    c[s] = b;
                    break;
                }
                c[s] = -1;
                s--;
            }
            if (s < 0) {
                return all;
            }
        }
    }

    int[] fewest(List<int[]> some) {
        int[] best = null;
        for (int[] c : some) {
            if (best == null || hearts(c) < hearts(best)) {
                best = c;
            }
        }
        return best;
    }

    int hope(int[] c, int s) {
        if (!refused(c, s)) {
            return -1;
        }
        for (int b = 0; b < brides.size(); b++) {
            if (b != c[s] && isFor(s, b)) {
                int[] d = c.clone();
                d[s] = b;
                if (taken(d, b) == s) {
                    return b;
                }
            }
        }
        return -1;
    }

    int hoper(int[] c) {
        for (int s = 0; s < c.length; s++) {
            if (hope(c, s) >= 0) {
                return s;
            }
        }
        return -1;
    }

    int walk(long seed, int w, int to, int y) {
        List<Integer> way = safest(w, to, y);
        BigInteger x = BigInteger.valueOf(seed);
        for (int i = 1; i < way.size(); i++) {
            int a = way.get(i - 1);
            int b = way.get(i);
            for (int s : steps(courts, pathOf(a, b), y)) {
                x = x.multiply(BigInteger.valueOf(1103515245)).add(BigInteger.valueOf(12345)).mod(BigInteger.ONE.shiftLeft(31));
                int draw = x.shiftRight(16).mod(BigInteger.valueOf(100)).intValue();
                if (draw < fall(s, y)) {
                    return height[b] < height[a] ? b : a;
                }
            }
        }
        return to;
    }
}
