import java.util.Random;

/** Each function with one argument alone below or above what there is: -2; and each asked by itself, in any order. */
public final class BoundsTest {
    private static final String TEXT =
        "mountain places 4 years 6;height 1 10;height 2 30;height 3 30;path 0 to 1;path 1 to 2;path 2 to 3;path 0 to 2;path 1 to 3;"
        + "bride path 1 in 1;bride path 3 in 0;bride path 4 in 2;suitor skill 2 spite 40 for 0 1;suitor skill 3 spite 30 for 0 2;"
        + "suitor skill 2 spite 90 for 1;rain 1 is 20;rain 3 is 75;walker leap 10 at 0;walker leap 0 at 3;court 0 0;court 1 0;";
    private static final int[] PATHS = {0, 4};
    private static final int[] BRIDES = {0, 2};
    private static final int[] SUITORS = {0, 2};
    private static final int[] WALKERS = {0, 1};
    private static final int[] PLACES = {0, 3};
    private static final int[] YEARS = {0, 5};
    private static final int[] LEAPS = {0, 99};
    private static final int[] SEEDS = {0, 2000000000};
    private static final int[] MOVES = {0, 40};
    private static final int[] SLOTS = {0, 3};
    private static final Random DICE = new Random(3);

    private interface Asking {
        long ask(DowrySteps x, int[] a);
    }

    private static int[] upTo(int what) {
        return new int[] {0, what};
    }

    private final String name;
    private final Asking asking;
    private final int[][] bounds;

    private BoundsTest(String name, Asking asking, int[]... bounds) {
        this.name = name;
        this.asking = asking;
        this.bounds = bounds;
    }

    private static final BoundsTest[] ALL = {
        new BoundsTest("path", (x, a) -> x.path(a[0], a[1]), PATHS, upTo(2)),
        new BoundsTest("bride", (x, a) -> x.bride(a[0], a[1]), BRIDES, upTo(3)),
        new BoundsTest("suitor", (x, a) -> x.suitor(a[0], a[1]), SUITORS, upTo(4)),
        new BoundsTest("steps", (x, a) -> x.steps(a[0], a[1]), PATHS, YEARS),
        new BoundsTest("whose", (x, a) -> x.whose(a[0], a[1], 0), PATHS, YEARS),
        new BoundsTest("leap", (x, a) -> x.leap(a[0], a[1]), PATHS, YEARS),
        new BoundsTest("rots", (x, a) -> x.rots(a[0]), PATHS),
        new BoundsTest("lacks", (x, a) -> x.lacks(a[0], a[1], a[2]), PATHS, YEARS, LEAPS),
        new BoundsTest("safe", (x, a) -> x.safe(a[0], a[1], a[2]), PATHS, YEARS, upTo(1)),
        new BoundsTest("reach", (x, a) -> x.reach(a[0], a[1]), WALKERS, YEARS),
        new BoundsTest("shortest", (x, a) -> x.shortest(a[0], a[1], a[2]), WALKERS, PLACES, YEARS),
        new BoundsTest("goes", (x, a) -> x.goes(a[0], a[1], a[2], 1), WALKERS, PLACES, YEARS),
        new BoundsTest("safest", (x, a) -> x.safest(a[0], a[1], a[2], a[3]), WALKERS, PLACES, YEARS, upTo(2)),
        new BoundsTest("place", (x, a) -> x.place(a[0], a[1], a[2], 1), WALKERS, PLACES, YEARS),
        new BoundsTest("ways", (x, a) -> x.ways(a[0], a[1], a[2]), WALKERS, PLACES, YEARS),
        new BoundsTest("when", (x, a) -> x.when(a[0], a[1], a[2]), WALKERS, PLACES, upTo(2)),
        new BoundsTest("need", (x, a) -> x.need(a[0], a[1], a[2]), PLACES, PLACES, YEARS),
        new BoundsTest("fewest", (x, a) -> x.fewest(a[0], a[1], a[2]), WALKERS, PLACES, YEARS),
        new BoundsTest("whom", (x, a) -> x.whom(a[0], a[1], a[2], a[3]), WALKERS, PLACES, YEARS, SUITORS),
        new BoundsTest("all", (x, a) -> x.all(a[0], a[1]), PLACES, YEARS),
        new BoundsTest("courtings", (x, a) -> x.courtings(a[0], a[1], a[2]), WALKERS, PLACES, YEARS),
        new BoundsTest("busy", (x, a) -> x.busy(a[0], a[1], a[2]), WALKERS, PLACES, YEARS),
        new BoundsTest("most", (x, a) -> x.most(a[0], a[1]), PATHS, YEARS),
        new BoundsTest("worst", (x, a) -> x.worst(a[0], a[1]), PATHS, YEARS),
        new BoundsTest("dry", (x, a) -> x.dry(a[0]), PATHS),
        new BoundsTest("climbs", (x, a) -> x.climbs(a[0], a[1], a[2], a[3]), WALKERS, PLACES, YEARS, upTo(1)),
        new BoundsTest("high", (x, a) -> x.high(a[0], a[1]), WALKERS, YEARS),
        new BoundsTest("parts", (x, a) -> x.parts(a[0], a[1]), YEARS, LEAPS),
        new BoundsTest("cuts", (x, a) -> x.cuts(a[0], a[1], a[2]), WALKERS, PLACES, YEARS),
        new BoundsTest("vain", (x, a) -> x.vain(a[0]), SUITORS),
        new BoundsTest("sold", (x, a) -> x.sold(a[0], a[1], a[2]), WALKERS, PLACES, YEARS),
        new BoundsTest("more", (x, a) -> x.more(a[0], a[1], a[2], a[3]), WALKERS, PLACES, YEARS, new int[] {1, 9}),
        new BoundsTest("agree", (x, a) -> x.agree(a[0]), SLOTS),
        new BoundsTest("sure", (x, a) -> x.sure(a[0], a[1]), SLOTS, SUITORS),
        new BoundsTest("kindly", (x, a) -> x.kindly(a[0]), SLOTS),
        new BoundsTest("odd", (x, a) -> x.odd(a[0]), SLOTS),
        new BoundsTest("hopes", (x, a) -> x.hopes(a[0]), SUITORS),
        new BoundsTest("peace", (x, a) -> x.peace()),
        new BoundsTest("peaces", (x, a) -> x.peaces(a[0]), MOVES),
        new BoundsTest("then", (x, a) -> x.then(a[0], a[1]), SUITORS, MOVES),
        new BoundsTest("walk", (x, a) -> x.walk(a[0], a[1], a[2], a[3]), SEEDS, WALKERS, PLACES, YEARS),
        new BoundsTest("walks", (x, a) -> x.walks(a[0], a[1], a[2], a[3], a[4]), SEEDS, new int[] {1, 20}, WALKERS, PLACES, YEARS),
        new BoundsTest("hearts", (x, a) -> x.hearts()),
        new BoundsTest("image", (x, a) -> x.image(a[0]), upTo(2)),
        new BoundsTest("back", (x, a) -> x.back(a[0]), upTo(2)),
    };

    private int[] draw() {
        int[] a = new int[bounds.length];
        for (int k = 0; k < a.length; k++) {
            a[k] = bounds[k][0] + DICE.nextInt(bounds[k][1] - bounds[k][0] + 1);
        }
        return a;
    }

    private void wrongAlone(DowrySteps x) {
        for (int k = 0; k < bounds.length; k++) {
            int[] wrong = {bounds[k][0] - 1, bounds[k][0] - 2, bounds[k][1] + 1, bounds[k][1] + 2, -2147483648, 2147483647};
            for (int value : wrong) {
                for (int round = 0; round < 10; round++) {
                    int[] a = draw();
                    a[k] = value;
                    Checks.due(name + java.util.Arrays.toString(a), asking.ask(x, a), -2);
                }
            }
        }
    }

    private static DowrySteps made() {
        DowrySteps x = Checks.told(TEXT);
        Checks.putRow(x, 0, 0, 1, 1, 7);
        Checks.putRow(x, 1, 1, 3, 1, 30, 1, 1, 10);
        Checks.putRow(x, 2, 2, 4, 2, 10);
        Checks.putRow(x, 3, 3, 4, 2, 11, 0, 0, 10);
        x.image(0);
        x.image(1);
        x.image(2);
        return x;
    }

    public static void main(String[] args) {
        DowrySteps x = made();
        for (BoundsTest one : ALL) {
            one.wrongAlone(x);
        }
        Checks.due("court of nobody", x.court(-1, 0), -2);
        // what a call answers is the same whatever was asked ahead of it
        for (int round = 0; round < 6000; round++) {
            BoundsTest one = ALL[DICE.nextInt(ALL.length)];
            int[] a = one.draw();
            long answer = one.asking.ask(x, a);
            Checks.due(one.name + java.util.Arrays.toString(a) + " by itself", answer, one.asking.ask(made(), a));
            Checks.due(one.name + java.util.Arrays.toString(a) + " as there is such", answer == -2 ? 1 : 0, 0);
        }
        Checks.finish("bounds");
    }
}
