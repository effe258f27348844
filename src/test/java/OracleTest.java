import java.math.BigInteger;
import java.util.ArrayList;
import java.util.List;
import java.util.Random;

/** Mountains drawn at random (from fixed seeds): what the class answers against what the oracle does. */
public final class OracleTest {
    private static final Random DICE = new Random(20261118);
    private static DowrySteps x;
    private static Oracle o;

    private OracleTest() {
    }

    private static void due(String call, long got, long want) {
        Checks.due(call, got, want);
    }

    private static int dice(int n) {
        return DICE.nextInt(n);
    }

    public static void main(String[] args) {
        for (int round = 0; round < 220; round++) {
            boolean great = round % 20 == 19;
            o = new Oracle();
            String text = draw(great);
            x = Checks.told(text);
            due("count(6) of " + text, x.count(6), o.lines);
            compareAsItIs();
            for (int again = 0; again < 2; again++) {
                courtAnew();
                leaveAndComeBack();
                compareAsItIs();
                comparePaths();
                compareWalkers();
            }
            if (!great || round % 40 == 39) {
                compareCourtings(great);
            }
        }
        Checks.finish("oracle");
    }

    private static String blank() {
        String[] blanks = {" ", "  ", "\n", " \n "};
        return blanks[dice(4)];
    }

    private static void add(StringBuilder text, String line) {
        for (String part : line.split(" ")) {
            text.append(part).append(blank());
        }
        text.append(';').append(dice(2) == 0 ? "" : blank());
        o.lines++;
    }

    private static String draw(boolean great) {
        StringBuilder text = new StringBuilder();
        o.places = great ? 8 : 2 + dice(7);
        o.years = great ? 4 + dice(3) : 1 + dice(6);
        add(text, "mountain places " + o.places + " years " + o.years);
        int tops = 5 + dice(95);
        for (int p = 0; p < o.places; p++) {
            drawHeight(text, p, tops);
        }
        drawPaths(text, great ? 10 : dice(11));
        drawBrides(text, great ? 4 : dice(5));
        drawSuitors(text, great ? 7 : dice(6));
        for (int i = dice(4); i >= 0; i--) {
            int y = dice(o.years);
            o.rain[y] = dice(3) == 0 ? dice(101) : dice(30);
            add(text, "rain " + y + " is " + o.rain[y]);
        }
        for (int w = great ? 4 : dice(5); w > 0; w--) {
            int[] walker = {dice(tops), dice(o.places)};
            o.walkers.add(walker);
            add(text, "walker leap " + walker[0] + " at " + walker[1]);
        }
        o.courts = new int[o.suitors.size()];
        for (int s = 0; s < o.courts.length; s++) {
            o.courts[s] = -1;
            for (int i = dice(3); i > 0; i--) {
                o.courts[s] = anyBrideFor(s);
                add(text, "court " + s + " " + o.courts[s]);
            }
        }
        return text.toString();
    }

    private static void drawHeight(StringBuilder text, int p, int tops) {
        for (int i = dice(3); i > 0; i--) {
            o.height[p] = dice(tops);
            add(text, "height " + p + " " + o.height[p]);
        }
    }

    private static void drawPaths(StringBuilder text, int n) {
        for (int i = 0; i < n; i++) {
            int a = dice(o.places);
            int b = dice(o.places);
            if (a != b && o.pathOf(a, b) < 0) {
                o.paths.add(new int[] {a, b});
                add(text, "path " + a + " to " + b);
            }
        }
    }

    private static void drawBrides(StringBuilder text, int n) {
        for (int i = 0; i < n && !o.paths.isEmpty(); i++) {
            int[] bride = {dice(o.paths.size()), dice(o.years)};
            o.brides.add(bride);
            add(text, "bride path " + bride[0] + " in " + bride[1]);
        }
    }

    private static void drawSuitors(StringBuilder text, int n) {
        for (int i = 0; i < n && !o.brides.isEmpty(); i++) {
            List<Integer> brides = new ArrayList<>();
            int first = dice(o.brides.size());
            int step = o.brides.size() == 4 ? 1 + 2 * dice(2) : 1;
            for (int k = dice(o.brides.size()); k >= 0; k--) {
                brides.add((first + k * step) % o.brides.size());
            }
            int[] suitor = new int[2 + brides.size()];
            suitor[0] = dice(3) == 0 ? dice(31) : dice(5);
            suitor[1] = dice(101);
            StringBuilder line = new StringBuilder("suitor skill " + suitor[0] + " spite " + suitor[1] + " for");
            for (int k = 0; k < brides.size(); k++) {
                suitor[2 + k] = brides.get(k);
                line.append(' ').append(brides.get(k));
            }
            o.suitors.add(suitor);
            add(text, line.toString());
        }
    }

    private static int anyBrideFor(int s) {
        int[] suitor = o.suitors.get(s);
        return suitor[2 + dice(suitor.length - 2)];
    }

    private static void courtAnew() {
        for (int s = 0; s < o.courts.length; s++) {
            int bride = dice(4) == 0 ? -1 : anyBrideFor(s);
            due("court(" + s + ", " + bride + ")", x.court(s, bride), o.courts[s]);
            o.courts[s] = bride;
            for (int b = 0; b < 5; b++) {
                if (b >= o.brides.size() || !o.isFor(s, b)) {
                    due("court(" + s + ", " + b + ")", x.court(s, b), -2);
                }
            }
        }
    }

    /** Promises 51 and 52: of the other mountain nothing is left. */
    private static void leaveAndComeBack() {
        int k = dice(3);
        due("image(" + k + ")", x.image(k), 0);
        StringBuilder other = new StringBuilder("mountain places 8 years 30;");
        for (int i = 0; i < 10; i++) {
            other.append("path ").append(i % 8).append(" to ").append((i + 1 + i / 8) % 8).append(';');
        }
        for (int i = 0; i < 8; i++) {
            other.append("height ").append(i).append(i < 4 ? " 77;bride path 9 in 29;" : " 77;");
        }
        for (int i = 0; i < 7; i++) {
            other.append("suitor skill 27 spite 78 for 3;court ").append(i).append(" 3;");
        }
        for (int i = 0; i < 4; i++) {
            other.append("walker leap 77 at 7;rain ").append(i).append(" is 55;");
        }
        int lines = Checks.tell(x, other.toString());
        due("mountain() of the other", lines > 0 ? 1 : 0, 1);
        due("hearts() of the other", x.hearts(), 6);
        due("back(" + k + ")", x.back(k), 0);
    }

    /** Promises 6 to 10, 44 to 47, 50. */
    private static void compareAsItIs() {
        int[] sizes = {o.places, o.years, o.paths.size(), o.brides.size(), o.suitors.size(), o.walkers.size()};
        for (int what = 0; what < sizes.length; what++) {
            due("count(" + what + ")", x.count(what), sizes[what]);
        }
        for (int p = 0; p < sizes[2]; p++) {
            due("path(" + p + ", 0)", x.path(p, 0), o.paths.get(p)[0]);
            due("path(" + p + ", 1)", x.path(p, 1), o.paths.get(p)[1]);
            due("path(" + p + ", 2)", x.path(p, 2), o.drop(p));
        }
        for (int b = 0; b < sizes[3]; b++) {
            int courters = 0;
            for (int c : o.courts) {
                courters += c == b ? 1 : 0;
            }
            due("bride(" + b + ", 0)", x.bride(b, 0), o.brides.get(b)[0]);
            due("bride(" + b + ", 1)", x.bride(b, 1), o.brides.get(b)[1]);
            due("bride(" + b + ", 2)", x.bride(b, 2), courters);
            due("bride(" + b + ", 3)", x.bride(b, 3), o.taken(o.courts, b));
        }
        int bits = 0;
        for (int s = 0; s < sizes[4]; s++) {
            compareSuitor(s);
            bits |= o.courts[s] >= 0 ? 1 << s : 0;
        }
        due("count(8)", x.count(8), bits);
        due("hearts()", x.hearts(), o.hearts(o.courts));
        due("peace()", x.peace(), o.hoper(o.courts) < 0 ? 1 : 0);
        comparePeace();
    }

    private static void compareSuitor(int s) {
        int[] suitor = o.suitors.get(s);
        int brides = 0;
        for (int i = 2; i < suitor.length; i++) {
            brides |= 1 << suitor[i];
        }
        due("suitor(" + s + ", 0)", x.suitor(s, 0), suitor[0]);
        due("suitor(" + s + ", 1)", x.suitor(s, 1), suitor[1]);
        due("suitor(" + s + ", 2)", x.suitor(s, 2), brides);
        due("suitor(" + s + ", 3)", x.suitor(s, 3), o.courts[s]);
        due("suitor(" + s + ", 4)", x.suitor(s, 4), o.refused(o.courts, s) ? 1 : 0);
        due("hopes(" + s + ")", x.hopes(s), o.hope(o.courts, s));
    }

    private static void comparePeace() {
        int[] c = o.courts.clone();
        int moved = 0;
        for (int n = 0; n <= 40; n++) {
            boolean peace = o.hoper(c) < 0;
            due("peaces(" + n + ")", x.peaces(n), peace ? moved : -1);
            for (int s = 0; s < c.length; s++) {
                due("then(" + s + ", " + n + ")", x.then(s, n), c[s]);
            }
            if (!peace) {
                int s = o.hoper(c);
                c[s] = o.hope(c, s);
                moved++;
            }
        }
    }

    /** Promises 11 to 16, 24, 30 to 32, 35. */
    private static void comparePaths() {
        for (int p = 0; p < o.paths.size(); p++) {
            int last = -1;
            int driest = 0;
            for (int y = 0; y < o.years; y++) {
                comparePath(p, y);
                last = o.steps(o.courts, p, y).isEmpty() ? last : y;
                BigInteger[] f = o.chance(List.of(p), y);
                BigInteger[] g = o.chance(List.of(p), driest);
                driest = f[0].multiply(g[1]).compareTo(g[0].multiply(f[1])) > 0 ? y : driest;
            }
            due("rots(" + p + ")", x.rots(p), last < 0 || last == o.years - 1 ? -1 : last + 1);
            due("dry(" + p + ")", x.dry(p), driest);
        }
        for (int y = 0; y < o.years; y++) {
            compareLeaps(y);
        }
    }

    private static void comparePath(int p, int y) {
        List<Integer> steps = o.steps(o.courts, p, y);
        String at = "(" + p + ", " + y;
        due("steps" + at, x.steps(p, y), steps.size());
        due("leap" + at, x.leap(p, y), o.leap(o.courts, p, y));
        for (int i = -1; i < 9; i++) {
            due("whose" + at + ", " + i, x.whose(p, y, i), i >= 0 && i < steps.size() ? steps.get(i) : -1);
        }
        for (int n = 0; n < 100; n += 1 + dice(20)) {
            due("lacks" + at + ", " + n, x.lacks(p, y, n), o.lacks(o.courts, p, y, n));
        }
        BigInteger[] chance = o.chance(List.of(p), y);
        due("safe" + at + ", 0", x.safe(p, y, 0), chance[0].longValueExact());
        due("safe" + at + ", 1", x.safe(p, y, 1), chance[1].longValueExact());
        int worst = -1;
        for (int s : steps) {
            worst = worst < 0 || o.fall(s, y) > o.fall(worst, y) ? s : worst;
        }
        due("worst" + at, x.worst(p, y), worst);
    }

    private static void compareLeaps(int y) {
        for (int n = 0; n < 100; n += 1 + dice(9)) {
            boolean[] open = o.open(o.courts, n, y);
            int parts = 0;
            for (int a = 0; a < o.places; a++) {
                parts += (o.reach(a, open) & (1 << a) - 1) == 0 ? 1 : 0;
            }
            due("parts(" + y + ", " + n + ")", x.parts(y, n), parts);
        }
        int a = dice(o.places);
        for (int b = 0; b < o.places; b++) {
            int need = -1;
            for (int n = 0; n < 100 && need < 0; n++) {
                need = (o.reach(a, o.open(o.courts, n, y)) & 1 << b) != 0 ? n : -1;
            }
            due("need(" + a + ", " + b + ", " + y + ")", x.need(a, b, y), need);
        }
    }

    /** Promises 17 to 23, 33, 34, 36 to 39, 48, 49. */
    private static void compareWalkers() {
        for (int w = 0; w < o.walkers.size(); w++) {
            for (int to = 0; to < o.places; to++) {
                compareWhen(w, to);
                for (int y = 0; y < o.years; y++) {
                    compareWays(w, to, y);
                    compareSold(w, to, y);
                }
            }
            for (int y = 0; y < o.years; y++) {
                int reach = o.reach(o.courts, w, y);
                int high = -1;
                for (int p = 0; p < o.places; p++) {
                    boolean there = (reach & 1 << p) != 0;
                    high = there && (high < 0 || o.height[p] > o.height[high]) ? p : high;
                }
                due("reach(" + w + ", " + y + ")", x.reach(w, y), reach);
                due("high(" + w + ", " + y + ")", x.high(w, y), high);
            }
        }
        for (int s = 0; s < o.suitors.size(); s++) {
            due("vain(" + s + ")", x.vain(s), o.courts[s] < 0 ? -1 : vain(s));
        }
    }

    private static int vain(int s) {
        int[] without = o.courts.clone();
        without[s] = -1;
        for (int w = 0; w < o.walkers.size(); w++) {
            for (int y = 0; y < o.years; y++) {
                if (o.reach(o.courts, w, y) != o.reach(without, w, y)) {
                    return 0;
                }
            }
        }
        return 1;
    }

    private static void compareWhen(int w, int to) {
        List<Integer> years = new ArrayList<>();
        for (int y = 0; y < o.years; y++) {
            if (o.comes(o.courts, w, to, y)) {
                years.add(y);
            }
        }
        String at = "(" + w + ", " + to;
        due("when" + at + ", 0)", x.when(w, to, 0), years.isEmpty() ? -1 : years.get(0));
        due("when" + at + ", 1)", x.when(w, to, 1), years.isEmpty() ? -1 : years.get(years.size() - 1));
        due("when" + at + ", 2)", x.when(w, to, 2), years.size());
    }

    private static void compareWays(int w, int to, int y) {
        String at = "(" + w + ", " + to + ", " + y;
        List<Integer> near = o.shortest(w, to, y);
        List<Integer> safe = o.safest(w, to, y);
        due("ways" + at, x.ways(w, to, y), o.ways(w, to, y).size());
        due("shortest" + at, x.shortest(w, to, y), near == null ? -1 : near.size());
        for (int i = -1; i <= 8; i++) {
            due("goes" + at + ", " + i, x.goes(w, to, y, i), near == null || i < 0 || i >= near.size() ? -1 : near.get(i));
            due("place" + at + ", " + i, x.place(w, to, y, i), safe == null || i < 0 || i >= safe.size() ? -1 : safe.get(i));
        }
        int up = 0;
        int down = 0;
        for (int i = 1; near != null && i < near.size(); i++) {
            int more = o.height[near.get(i)] - o.height[near.get(i - 1)];
            up += Math.max(more, 0);
            down += Math.max(-more, 0);
        }
        due("climbs" + at + ", 0", x.climbs(w, to, y, 0), near == null ? -1 : up);
        due("climbs" + at + ", 1", x.climbs(w, to, y, 1), near == null ? -1 : down);
        if (safe == null) {
            due("walk" + at, x.walk(dice(1000), w, to, y), -1);
            due("walks" + at, x.walks(dice(1000), 3, w, to, y), -1);
            due("safest" + at + ", 2", x.safest(w, to, y, 2), -1);
            due("cuts" + at, x.cuts(w, to, y), -1);
            return;
        }
        BigInteger[] chance = o.chance(o.along(safe), y);
        due("safest" + at + ", 0", x.safest(w, to, y, 0), chance[0].longValueExact());
        due("safest" + at + ", 1", x.safest(w, to, y, 1), chance[1].longValueExact());
        due("safest" + at + ", 2", x.safest(w, to, y, 2), safe.size());
        int seed = dice(5) == 0 ? 2000000000 : dice(2000000001);
        due("walk " + seed + at, x.walk(seed, w, to, y), o.walk(seed, w, to, y));
        int n = 1 + dice(20);
        int there = 0;
        for (int i = 0; i < n; i++) {
            there += o.walk(seed + i, w, to, y) == to ? 1 : 0;
        }
        due("walks " + seed + ", " + n + at, x.walks(seed, n, w, to, y), there);
        due("cuts" + at, x.cuts(w, to, y), cuts(w, to, y));
    }

    private static int cuts(int w, int to, int y) {
        int bits = 0;
        for (int p = 0; p < o.paths.size(); p++) {
            boolean[] open = o.open(o.courts, o.walkers.get(w)[0], y);
            open[p] = false;
            bits |= (o.reach(o.walkers.get(w)[1], open) & 1 << to) == 0 ? 1 << p : 0;
        }
        return bits;
    }

    private static void compareSold(int w, int to, int y) {
        int leap = o.walkers.get(w)[0];
        int from = o.walkers.get(w)[1];
        // every set of paths made fit: the cheapest with which he comes
        int sold = -1;
        int n = o.paths.size();
        int[] lacks = new int[n];
        for (int p = 0; p < n; p++) {
            lacks[p] = o.lacks(o.courts, p, y, leap);
        }
        if (o.places <= 5 || dice(12) == 0) {
            for (int set = 0; set < 1 << n; set++) {
                int sum = 0;
                boolean[] open = new boolean[n];
                for (int p = 0; p < n; p++) {
                    open[p] = (set & 1 << p) != 0;
                    sum = !open[p] || sum < 0 ? sum : lacks[p] < 0 ? -1 : sum + lacks[p];
                }
                if (sum >= 0 && (sold < 0 || sum < sold) && (o.reach(from, open) & 1 << to) != 0) {
                    sold = sum;
                }
            }
            due("sold(" + w + ", " + to + ", " + y + ")", x.sold(w, to, y), sold);
        }
        int more = 1 + dice(9);
        int which = -1;
        for (int p = n - 1; p >= 0 && !o.comes(o.courts, w, to, y); p--) {
            boolean[] open = o.open(o.courts, leap, y);
            open[p] |= o.leapBy(p, o.steps(o.courts, p, y).size() + more) <= leap;
            which = (o.reach(from, open) & 1 << to) != 0 ? p : which;
        }
        due("more(" + w + ", " + to + ", " + y + ", " + more + ")", x.more(w, to, y, more), which);
    }

    /** Promises 25 to 30, 40 to 43. */
    private static void compareCourtings(boolean great) {
        List<int[]> all = o.courtings();
        for (int i = 0; i < (great ? 2 : 8); i++) {
            int to = dice(o.places);
            int y = dice(o.years);
            if (!o.walkers.isEmpty()) {
                compareComing(all, dice(o.walkers.size()), to, y);
            }
            compareAll(all, to, y);
        }
        for (int p = 0; p < o.paths.size(); p++) {
            int y = dice(o.years);
            int most = 0;
            for (int[] c : all) {
                most = Math.max(most, o.steps(c, p, y).size());
            }
            due("most(" + p + ", " + y + ")", x.most(p, y), most);
        }
        for (int i = 0; i < (great ? 3 : 12) && !o.paths.isEmpty(); i++) {
            compareMeasured(all);
        }
    }

    private static void compareComing(List<int[]> all, int w, int to, int y) {
        List<int[]> such = new ArrayList<>();
        int busy = -1;
        for (int[] c : all) {
            if (o.comes(c, w, to, y)) {
                such.add(c);
                busy = busy < 0 ? o.courters(c) : Math.min(busy, o.courters(c));
            }
        }
        int[] best = o.fewest(such);
        String at = "(" + w + ", " + to + ", " + y;
        due("courtings" + at, x.courtings(w, to, y), such.size());
        due("busy" + at, x.busy(w, to, y), busy);
        due("fewest" + at, x.fewest(w, to, y), best == null ? -1 : o.hearts(best));
        for (int s = 0; s < o.suitors.size(); s++) {
            due("whom" + at + ", " + s, x.whom(w, to, y, s), best == null ? -1 : best[s]);
        }
        due("whom of no suitor", x.whom(w, to, y, o.suitors.size()), -2);
    }

    private static void compareAll(List<int[]> all, int to, int y) {
        int best = -1;
        for (int[] c : all) {
            boolean comes = true;
            for (int w = 0; w < o.walkers.size(); w++) {
                comes = comes && o.comes(c, w, to, y);
            }
            if (comes && (best < 0 || o.hearts(c) < best)) {
                best = o.hearts(c);
            }
        }
        due("all(" + to + ", " + y + ")", x.all(to, y), best);
    }

    private static void compareMeasured(List<int[]> all) {
        int slot = dice(4);
        int n = dice(4) == 0 ? 20 : dice(7);
        long[] row = new long[3 * n];
        int[] by = all.get(dice(all.size()));
        for (int i = 0; i < n; i++) {
            int p = dice(o.paths.size());
            int y = dice(o.years);
            int wild = dice(30);
            row[3 * i] = p;
            row[3 * i + 1] = y;
            row[3 * i + 2] = wild == 0 ? dice(120) : wild < 8 ? o.leap(o.courts, p, y) : o.leap(by, p, y);
        }
        Checks.putRow(x, slot, dice(4), row);
        List<int[]> such = new ArrayList<>();
        for (int[] c : all) {
            if (odd(c, row) < 0) {
                such.add(c);
            }
        }
        int[] best = o.fewest(such);
        due("agree(" + slot + ")", x.agree(slot), such.size());
        due("kindly(" + slot + ")", x.kindly(slot), best == null ? -1 : o.hearts(best));
        due("odd(" + slot + ")", x.odd(slot), odd(o.courts, row));
        for (int s = 0; s < o.suitors.size(); s++) {
            int sure = such.isEmpty() ? -1 : such.get(0)[s] < 0 ? 9 : such.get(0)[s];
            for (int[] c : such) {
                sure = c[s] == such.get(0)[s] ? sure : -1;
            }
            due("sure(" + slot + ", " + s + ")", x.sure(slot, s), sure);
        }
    }

    private static int odd(int[] c, long[] row) {
        for (int i = 0; i < row.length / 3; i++) {
            if (o.leap(c, (int) row[3 * i], (int) row[3 * i + 1]) != row[3 * i + 2]) {
                return i;
            }
        }
        return -1;
    }
}
