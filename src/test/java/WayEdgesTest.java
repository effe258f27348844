/** Promises 17 to 23, 33, 34, 36 to 39, 48 and 49 by sentence: what is asked of walkers. */
public final class WayEdgesTest {
    private static final int NONE = -1;
    private static final int LEAST = -2147483648;
    private static final int MOST = 2147483647;
    private static final int TOP_SEED = 2000000000;

    /** Walker 0 comes to place 1 and, in the years 1 and 2, over it to 2 and 3; walker 1 nowhere else; walker 2 everywhere but to 4. */
    private static final String HILL = "mountain places 5 years 4;height 1 10;height 2 30;height 3 25;path 0 to 1;path 1 to 2;path 2 to 3;path 0 to 2;"
        + "bride path 1 in 1;suitor skill 1 spite 100 for 0;suitor skill 0 spite 40 for 0;rain 1 is 20;"
        + "walker leap 10 at 0;walker leap 4 at 3;walker leap 99 at 3;court 0 0;court 1 0;";

    private interface OfWay {
        long ask(DowrySteps x, int walker, int to, int year);
    }

    private static void due(String call, long got, long want) {
        Checks.due(call, got, want);
    }

    public static void main(String[] args) {
        reachAndShortest();
        safestAndWays();
        climbsAndCuts();
        stepsMore();
        walks();
        Sentences.everyPromise(17, 18, 19, 20, 21, 22, 23, 33, 34, 36, 37, 38, 39, 48, 49);
        Checks.finish("edges of ways");
    }

    private static void reachAndShortest() {
        Sentences.ofPromise(17, "as bits (where he is, too)", WayEdgesTest::reachBits);
        Sentences.ofPromise(17, "-2: there are none such", () -> noSuch((x, w, to, y) -> x.reach(w, y), false, true));
        Sentences.ofPromise(18, "SHORTEST way: how many PLACES; NONE: there is none", WayEdgesTest::shortestOrNone);
        Sentences.ofPromise(18, "-2: there are none such", () -> noSuch((x, w, to, y) -> x.shortest(w, to, y), true, true));
        Sentences.ofPromise(19, "The i-th PLACE of it (0: where he is). NONE: there is none such", WayEdgesTest::goesOrNone);
        Sentences.ofPromise(19, "-2 likewise", () -> noSuch((x, w, to, y) -> x.goes(w, to, y, 0), true, true));
    }

    private static void safestAndWays() {
        Sentences.ofPromise(20, "the chance, above (what 0), below (1), how many PLACES (2). NONE: there is none", WayEdgesTest::safestOrNone);
        Sentences.ofPromise(20, "-2 likewise, no such what", WayEdgesTest::safestNoSuch);
        Sentences.ofPromise(21, "The i-th PLACE of it. NONE: there is none such", WayEdgesTest::placeOrNone);
        Sentences.ofPromise(21, "-2 likewise", () -> noSuch((x, w, to, y) -> x.place(w, to, y, 0), true, true));
        Sentences.ofPromise(22, "How many WAYS there are", WayEdgesTest::waysOfNoneAndMany);
        Sentences.ofPromise(22, "-2 likewise", () -> noSuch((x, w, to, y) -> x.ways(w, to, y), true, true));
        Sentences.ofPromise(23, "(what 0), the last (1), how many there are (2). NONE: none (what 2: 0)", WayEdgesTest::whenOrNone);
        Sentences.ofPromise(23, "-2: there are none such", WayEdgesTest::whenNoSuch);
    }

    private static void climbsAndCuts() {
        Sentences.ofPromise(33, "(what 0), down (1). NONE: there is none", WayEdgesTest::climbsOrNone);
        Sentences.ofPromise(33, "-2: there are none such", WayEdgesTest::climbsNoSuch);
        Sentences.ofPromise(34, "The highest PLACE to which a WALKER can come in a YEAR, the least of several", WayEdgesTest::highestLeast);
        Sentences.ofPromise(34, "-2: there are none such", () -> noSuch((x, w, to, y) -> x.high(w, y), false, true));
        Sentences.ofPromise(36, "as bits. NONE: he can't", WayEdgesTest::cutsOrNone);
        Sentences.ofPromise(36, "-2: there are none such", () -> noSuch((x, w, to, y) -> x.cuts(w, to, y), true, true));
        Sentences.ofPromise(37, "1, if without it (who is TAKEN as it is) all WALKERS come in all YEARS to just the same PLACES, else 0",
            WayEdgesTest::vainOrNot);
        Sentences.ofPromise(37, "NONE: he COURTS nobody. -2: there is none such", WayEdgesTest::vainOfNobody);
    }

    private static void stepsMore() {
        Sentences.ofPromise(38, "the fewest STEPS more (of nobody, never missed) on any PATHS", WayEdgesTest::soldFewest);
        Sentences.ofPromise(38, "NONE: by none", WayEdgesTest::soldByNone);
        Sentences.ofPromise(38, "-2: there are none such", () -> noSuch((x, w, to, y) -> x.sold(w, to, y), true, true));
        Sentences.ofPromise(39, "the PATH on which n (1 .. 9) STEPS more let him come there, the first of several", WayEdgesTest::moreAtBounds);
        Sentences.ofPromise(39, "the PATH on which n (1 .. 9) STEPS more", WayEdgesTest::fullOnes);
        Sentences.ofPromise(39, "NONE: none (or he can without)", WayEdgesTest::moreByNone);
        Sentences.ofPromise(39, "-2 likewise, no such n", WayEdgesTest::moreNoSuch);
    }

    private static void walks() {
        Sentences.ofPromise(48, "from a seed (0 .. 2,000,000,000)", WayEdgesTest::seedsAtBounds);
        Sentences.ofPromise(48, "NONE: there is no way", WayEdgesTest::walkNoWay);
        Sentences.ofPromise(48, "-2: there are none such", () -> noSuch((x, w, to, y) -> x.walk(0, w, to, y), true, true));
        Sentences.ofPromise(49, "Of n (1 .. 20) such from seeds, the seed and 1, ..", WayEdgesTest::walksAtBounds);
        Sentences.ofPromise(49, "in how many he is there in the end", WayEdgesTest::walksThere);
        Sentences.ofPromise(49, "in how many he is there in the end", WayEdgesTest::longWalks);
        Sentences.ofPromise(49, "NONE, -2 likewise", WayEdgesTest::walksNoneAndNoSuch);
    }

    private static DowrySteps hill() {
        return Checks.told(HILL);
    }

    /** Walkers 0 .. 2, places 0 .. 4, years 0 .. 3: what is beside them is none such, the last and the first of each is. */
    private static void noSuch(OfWay asking, boolean asksPlace, boolean asksYear) {
        DowrySteps x = hill();
        for (int wrong : new int[] {-1, -2, 5, 6, 32, LEAST, MOST}) {
            due("walker " + wrong, asking.ask(x, wrong, 0, 0), -2);
            due("place " + wrong, asking.ask(x, 0, wrong, 0) == -2 ? 1 : 0, asksPlace ? 1 : 0);
            due("year " + wrong, asking.ask(x, 0, 0, wrong) == -2 ? 1 : 0, asksYear ? 1 : 0);
            due("all " + wrong, asking.ask(x, wrong, wrong, wrong), -2);
        }
        due("walker 3, one above the last", asking.ask(x, 3, 0, 0), -2);
        due("year 4, one above the last", asking.ask(x, 0, 0, 4) == -2 ? 1 : 0, asksYear ? 1 : 0);
        due("walker 2, place 4, year 3", asking.ask(x, 2, 4, 3) == -2 ? 1 : 0, 0);
        due("walker 0, place 0, year 0", asking.ask(x, 0, 0, 0) == -2 ? 1 : 0, 0);
        due("without walkers", asking.ask(Checks.told("mountain places 2 years 1;path 0 to 1;"), 0, 0, 0), -2);
    }

    private static void reachBits() {
        int[][] due = {{3, 15, 15, 3}, {8, 8, 8, 8}, {15, 15, 15, 15}};
        DowrySteps x = hill();
        for (int w = 0; w < 3; w++) {
            for (int y = 0; y < 4; y++) {
                due("reach(" + w + ", " + y + ")", x.reach(w, y), due[w][y]);
            }
        }
        due("of eight places all", Checks.told("mountain places 8 years 1;path 7 to 6;path 6 to 5;path 5 to 4;path 4 to 3;path 3 to 2;path 2 to 1;path 1 to 0;"
            + "walker leap 0 at 7;").reach(0, 0), 255);
        due("of eight places the last alone", Checks.told("mountain places 8 years 1;walker leap 99 at 7;").reach(0, 0), 128);
    }

    private static void shortestOrNone() {
        DowrySteps x = hill();
        due("shortest(0, 0, 0), where he is", x.shortest(0, 0, 0), 1);
        due("shortest(0, 1, 0)", x.shortest(0, 1, 0), 2);
        due("shortest(0, 2, 1)", x.shortest(0, 2, 1), 3);
        due("shortest(0, 2, 2), by the one step of suitor 0", x.shortest(0, 2, 2), 3);
        due("shortest(0, 2, 3), behind it", x.shortest(0, 2, 3), NONE);
        due("shortest(0, 2, 0)", x.shortest(0, 2, 0), NONE);
        due("shortest(2, 4, 0)", x.shortest(2, 4, 0), NONE);
        due("shortest(2, 0, 0)", x.shortest(2, 0, 0), 3);
    }

    private static void goesOrNone() {
        DowrySteps x = hill();
        int[] row = {NONE, 0, 1, 2, NONE, NONE};
        for (int i = -1; i <= 4; i++) {
            due("goes(0, 2, 1, " + i + ")", x.goes(0, 2, 1, i), row[i + 1]);
            due("goes(0, 2, 0, " + i + "), no way", x.goes(0, 2, 0, i), NONE);
            due("goes(1, 3, 0, " + i + "), where he is", x.goes(1, 3, 0, i), i == 0 ? 3 : NONE);
        }
        for (int i : new int[] {-2, 8, 9, LEAST, MOST}) {
            due("goes(0, 2, 1, " + i + ")", x.goes(0, 2, 1, i), NONE);
        }
    }

    private static void safestOrNone() {
        DowrySteps x = hill();
        // suitor 0 falls by 20, suitor 1 by 60
        int[] due = {8, 25, 3};
        for (int what = 0; what < 3; what++) {
            due("safest(0, 2, 1, " + what + ")", x.safest(0, 2, 1, what), due[what]);
            due("safest(0, 2, 0, " + what + "), no way", x.safest(0, 2, 0, what), NONE);
            due("safest(0, 0, 1, " + what + "), where he is", x.safest(0, 0, 1, what), 1);
            due("safest(2, 1, 1, " + what + "), the dry way about", x.safest(2, 1, 1, what), what == 2 ? 4 : 1);
        }
    }

    private static void safestNoSuch() {
        noSuch((x, w, to, y) -> x.safest(w, to, y, 2), true, true);
        DowrySteps x = hill();
        for (int what : new int[] {-1, 3, -2, 4, LEAST, MOST}) {
            due("safest(0, 2, 1, " + what + ")", x.safest(0, 2, 1, what), -2);
            due("safest(0, 2, 0, " + what + "), no way", x.safest(0, 2, 0, what), -2);
        }
    }

    private static void placeOrNone() {
        DowrySteps x = hill();
        int[] row = {NONE, 3, 2, 0, 1, NONE, NONE};
        for (int i = -1; i <= 5; i++) {
            due("place(2, 1, 1, " + i + ")", x.place(2, 1, 1, i), row[i + 1]);
            due("place(0, 2, 0, " + i + "), no way", x.place(0, 2, 0, i), NONE);
            due("place(1, 3, 0, " + i + "), where he is", x.place(1, 3, 0, i), i == 0 ? 3 : NONE);
        }
        for (int i : new int[] {-2, 8, 9, LEAST, MOST}) {
            due("place(2, 1, 1, " + i + ")", x.place(2, 1, 1, i), NONE);
        }
    }

    private static void waysOfNoneAndMany() {
        DowrySteps x = hill();
        due("ways(0, 0, 0), where he is", x.ways(0, 0, 0), 1);
        due("ways(0, 2, 0)", x.ways(0, 2, 0), 0);
        due("ways(2, 4, 0)", x.ways(2, 4, 0), 0);
        due("ways(2, 1, 0)", x.ways(2, 1, 0), 2);
        due("ways(1, 2, 0), by a leap one too small", x.ways(1, 2, 0), 0);
        // all five places joined by all ten paths
        StringBuilder text = new StringBuilder("mountain places 8 years 1;walker leap 0 at 4;");
        for (int a = 0; a < 5; a++) {
            for (int b = 0; b < a; b++) {
                text.append("path ").append(a).append(" to ").append(b).append(';');
            }
        }
        DowrySteps full = Checks.told(text.toString());
        due("ways of five places all joined", full.ways(0, 0, 0), 16);
        due("ways to a place apart", full.ways(0, 7, 0), 0);
    }

    private static void whenOrNone() {
        DowrySteps x = hill();
        int[][] due = {{0, 3, 4}, {0, 3, 4}, {1, 2, 2}, {1, 2, 2}, {NONE, NONE, 0}};
        for (int to = 0; to < 5; to++) {
            for (int what = 0; what < 3; what++) {
                due("when(0, " + to + ", " + what + ")", x.when(0, to, what), due[to][what]);
            }
        }
        x.court(0, NONE);
        for (int what = 0; what < 3; what++) {
            due("when(0, 2, " + what + "), one year", x.when(0, 2, what), 1);
        }
        DowrySteps thirty = Checks.told("mountain places 2 years 30;path 0 to 1;walker leap 0 at 0;");
        due("when, the first of thirty", thirty.when(0, 1, 0), 0);
        due("when, the last of thirty", thirty.when(0, 1, 1), 29);
        due("when, thirty", thirty.when(0, 1, 2), 30);
    }

    private static void whenNoSuch() {
        noSuch((x, w, to, y) -> x.when(w, to, 2), true, false);
        DowrySteps x = hill();
        for (int what : new int[] {-1, 3, -2, 4, LEAST, MOST}) {
            due("when(0, 2, " + what + ")", x.when(0, 2, what), -2);
            due("when(0, 4, " + what + "), never", x.when(0, 4, what), -2);
        }
    }

    private static void climbsOrNone() {
        DowrySteps x = hill();
        int[][] due = {{30, 5}, {NONE, NONE}, {0, 0}};
        for (int what = 0; what < 2; what++) {
            due("climbs(0, 2, 1, " + what + ")", x.climbs(0, 2, 1, what), what == 0 ? 30 : 0);
            due("climbs(2, 1, 1, " + what + ")", x.climbs(2, 1, 1, what), what == 0 ? 5 : 20);
            due("climbs(0, 2, 0, " + what + "), no way", x.climbs(0, 2, 0, what), due[1][what]);
            due("climbs(1, 3, 0, " + what + "), where he is", x.climbs(1, 3, 0, what), due[2][what]);
        }
        DowrySteps high = Checks.told("mountain places 3 years 1;height 1 99;path 0 to 1;path 1 to 2;walker leap 99 at 0;");
        due("up 99", high.climbs(0, 2, 0, 0), 99);
        due("down 99", high.climbs(0, 2, 0, 1), 99);
        DowrySteps flat = Checks.told("mountain places 2 years 1;path 0 to 1;walker leap 99 at 0;");
        due("up on the flat", flat.climbs(0, 1, 0, 0), 0);
        due("down on the flat", flat.climbs(0, 1, 0, 1), 0);
    }

    private static void climbsNoSuch() {
        noSuch((x, w, to, y) -> x.climbs(w, to, y, 1), true, true);
        DowrySteps x = hill();
        for (int what : new int[] {-1, 2, -2, 3, LEAST, MOST}) {
            due("climbs(0, 2, 1, " + what + ")", x.climbs(0, 2, 1, what), -2);
            due("climbs(0, 2, 0, " + what + "), no way", x.climbs(0, 2, 0, what), -2);
        }
    }

    private static void highestLeast() {
        DowrySteps x = hill();
        due("high(0, 0)", x.high(0, 0), 1);
        due("high(0, 1)", x.high(0, 1), 2);
        due("high(0, 2), by the one step of suitor 0", x.high(0, 2), 2);
        due("high(0, 3)", x.high(0, 3), 1);
        due("high(1, 0), where he is", x.high(1, 0), 3);
        String flat = "mountain places 4 years 1;path 3 to 2;path 2 to 1;path 1 to 0;walker leap 9 at 3;";
        due("of four alike", Checks.told(flat).high(0, 0), 0);
        due("of two alike", Checks.told(flat + "height 1 9;height 2 9;").high(0, 0), 1);
        due("where he is, of two alike", Checks.told(flat + "height 3 9;height 0 0;height 2 9;").high(0, 0), 2);
        due("not the highest, to which he cannot come", Checks.told(flat + "height 1 10;height 0 99;").high(0, 0), 2);
    }

    private static void cutsOrNone() {
        DowrySteps x = hill();
        due("cuts(0, 2, 0)", x.cuts(0, 2, 0), NONE);
        due("cuts(2, 4, 0)", x.cuts(2, 4, 0), NONE);
        due("cuts(0, 0, 0), where he is", x.cuts(0, 0, 0), 0);
        due("cuts(0, 2, 1)", x.cuts(0, 2, 1), 3);
        due("cuts(0, 2, 2), by the one step of suitor 0", x.cuts(0, 2, 2), 3);
        due("cuts(0, 2, 3)", x.cuts(0, 2, 3), NONE);
        due("cuts(2, 1, 0), two ways, but one path at first", x.cuts(2, 1, 0), 4);
        due("cuts(2, 2, 0)", x.cuts(2, 2, 0), 4);
        DowrySteps ten = Checks.told("mountain places 8 years 1;path 0 to 1;path 0 to 2;path 1 to 2;path 2 to 3;path 3 to 4;path 4 to 5;path 5 to 6;path 3 to 5;"
            + "path 4 to 6;path 6 to 7;walker leap 0 at 0;");
        due("the fourth and the tenth of ten", ten.cuts(0, 7, 0), 1 << 3 | 1 << 9);
    }

    private static void vainOrNot() {
        DowrySteps x = hill();
        // path 1 is a leap of 20 by no step, of 10 by one: walker 0 needs one in year 1, where there are two, and in year 2, where there is one
        due("vain(1), year 1 has the other one", x.vain(1), 1);
        due("vain(0), year 2 has none other", x.vain(0), 0);
        DowrySteps y = Checks.told(HILL.replace("leap 10 at 0", "leap 20 at 0"));
        due("vain(1), none needs a step", y.vain(1), 1);
        due("vain(0), none needs a step", y.vain(0), 1);
        DowrySteps last = Checks.told("mountain places 2 years 30;height 1 2;path 0 to 1;bride path 0 in 29;suitor skill 0 spite 0 for 0;suitor skill 0 spite 0 for 0;"
            + "walker leap 0 at 0;walker leap 0 at 0;walker leap 0 at 0;walker leap 1 at 1;court 0 0;");
        due("the last walker in the last year", last.vain(0), 0);
        last.court(1, 0);
        due("two for one: each is in vain", last.vain(0) + last.vain(1), 2);
        String bothInTheLast = "mountain places 2 years 30;height 1 2;path 0 to 1;bride path 0 in 29;suitor skill 0 spite 0 for 0;suitor skill 9 spite 0 for 0;"
            + "walker leap 1 at 0;court 0 0;court 1 0;";
        due("two in the last year: what is behind it does not matter", Checks.told(bothInTheLast).vain(1), 1);
        DowrySteps first = Checks.told(bothInTheLast.replace("in 29", "in 0").replace("court 1 0;", ""));
        due("the first year alone", first.vain(0), 0);
        due("without walkers all are in vain", Checks.told("mountain places 2 years 1;height 1 9;path 0 to 1;bride path 0 in 0;suitor skill 0 spite 0 for 0;"
            + "court 0 0;").vain(0), 1);
    }

    private static void vainOfNobody() {
        DowrySteps x = hill();
        x.court(1, NONE);
        due("vain(1)", x.vain(1), NONE);
        for (int wrong : new int[] {-1, 2, -2, 3, 7, LEAST, MOST}) {
            due("vain(" + wrong + ")", x.vain(wrong), -2);
        }
    }

    private static void soldFewest() {
        DowrySteps x = hill();
        due("sold(0, 1, 0), he can", x.sold(0, 1, 0), 0);
        due("sold(0, 0, 0), where he is", x.sold(0, 0, 0), 0);
        due("sold(0, 2, 0), over 1 by one, straight by two", x.sold(0, 2, 0), 1);
        due("sold(0, 2, 1), he can", x.sold(0, 2, 1), 0);
        due("sold(1, 2, 0), just one", x.sold(1, 2, 0), 1);
        due("sold(1, 0, 0), 1 and 7 or 1 and 4 and 2", x.sold(1, 0, 0), 7);
        due("sold(1, 0, 1), two steps are there", x.sold(1, 0, 1), 5);
        due("99 by leaps of 1", Checks.told("mountain places 2 years 1;height 1 99;path 0 to 1;walker leap 1 at 0;").sold(0, 1, 0), 98);
        StringBuilder row = new StringBuilder("mountain places 8 years 1;height 1 99;height 3 99;height 5 99;height 7 99;walker leap 1 at 0;");
        for (int p = 0; p < 7; p++) {
            row.append("path ").append(p).append(" to ").append(p + 1).append(';');
        }
        due("seven times 99 by leaps of 1", Checks.told(row.toString()).sold(0, 7, 0), 686);
    }

    private static void soldByNone() {
        DowrySteps x = hill();
        due("sold(2, 4, 0)", x.sold(2, 4, 0), NONE);
        due("sold(0, 4, 1)", x.sold(0, 4, 1), NONE);
        String zero = "mountain places 3 years 1;height 1 1;path 0 to 1;path 0 to 2;walker leap 0 at 0;";
        due("by leaps of 0 up 1", Checks.told(zero).sold(0, 1, 0), NONE);
        due("by leaps of 0 on the flat", Checks.told(zero).sold(0, 2, 0), 0);
    }

    private static void moreAtBounds() {
        DowrySteps x = hill();
        due("more(0, 2, 0, 1)", x.more(0, 2, 0, 1), 1);
        due("more(0, 2, 0, 2), the first of two", x.more(0, 2, 0, 2), 1);
        due("more(1, 2, 0, 1)", x.more(1, 2, 0, 1), 2);
        String high = "mountain places 3 years 1;height 1 50;height 2 40;path 0 to 1;path 0 to 2;path 1 to 2;walker leap 10 at 0;walker leap 5 at 0;walker leap 4 at 0;";
        DowrySteps y = Checks.told(high);
        due("more(0, 1, 0, 2)", y.more(0, 1, 0, 2), NONE);
        due("more(0, 1, 0, 3)", y.more(0, 1, 0, 3), 1);
        due("more(0, 1, 0, 4), the first of two", y.more(0, 1, 0, 4), 0);
        due("more(1, 1, 0, 8)", y.more(1, 1, 0, 8), NONE);
        due("more(1, 1, 0, 9)", y.more(1, 1, 0, 9), 0);
        due("more(2, 2, 0, 8)", y.more(2, 2, 0, 8), NONE);
        due("more(2, 2, 0, 9)", y.more(2, 2, 0, 9), 1);
        // path 1 by the step of suitor 0, path 2 lacks one
        DowrySteps z = Checks.told(HILL.replace("height 3 25", "height 3 50"));
        due("more(0, 3, 2, 1), with the one step of suitor 0", z.more(0, 3, 2, 1), 2);
        due("more(0, 3, 3, 1), without it", z.more(0, 3, 3, 1), NONE);
    }

    /** Eight places and ten paths, on each of which he would need two steps more; four walkers. */
    private static DowrySteps fullOne(int tenth) {
        return Checks.told("mountain places 8 years 1;height 7 30;path 0 to 1;path 0 to 2;path 0 to 3;path 0 to 4;path 0 to 5;path 0 to 6;path 1 to 2;path 1 to 3;"
            + "path 1 to 4;path " + tenth + " to 7;walker leap 0 at 1;walker leap 0 at 2;walker leap 0 at 3;walker leap 10 at 0;");
    }

    private static void fullOnes() {
        for (int tenth = 0; tenth < 7; tenth++) {
            DowrySteps x = fullOne(tenth);
            due("sold over the tenth path", x.sold(3, 7, 0), 2);
            due("more on the tenth path", x.more(3, 7, 0, 2), 9);
            due("more, one too few on each of ten", x.more(3, 7, 0, 1), NONE);
            due("cuts of nine", x.cuts(3, 6, 0), 1 << 5);
            due("reach of walker 3", x.reach(3, 0), 127);
            due("high of walker 3", x.high(3, 0), 0);
            due("shortest of walker 3", x.shortest(3, 6, 0), 2);
            due("place 6 from 1 over 0", x.place(0, 6, 0, 1), 0);
        }
    }

    private static void moreByNone() {
        DowrySteps x = hill();
        due("more(0, 1, 0, 9), he can without", x.more(0, 1, 0, 9), NONE);
        due("more(0, 0, 0, 9), he is there", x.more(0, 0, 0, 9), NONE);
        due("more(2, 4, 0, 9), no path", x.more(2, 4, 0, 9), NONE);
        due("more(1, 0, 0, 9), two paths lack", x.more(1, 0, 0, 9), NONE);
        due("more(0, 2, 1, 9), he can without", x.more(0, 2, 1, 9), NONE);
        due("by leaps of 0", Checks.told("mountain places 2 years 1;height 1 1;path 0 to 1;walker leap 0 at 0;").more(0, 1, 0, 9), NONE);
    }

    private static void moreNoSuch() {
        noSuch((x, w, to, y) -> x.more(w, to, y, 1), true, true);
        noSuch((x, w, to, y) -> x.more(w, to, y, 9), true, true);
        DowrySteps x = hill();
        for (int n : new int[] {0, 10, -1, 11, LEAST, MOST}) {
            due("more(0, 2, 0, " + n + ")", x.more(0, 2, 0, n), -2);
            due("more(0, 1, 0, " + n + "), he can without", x.more(0, 1, 0, n), -2);
        }
    }

    private static void seedsAtBounds() {
        DowrySteps x = hill();
        // the step of 0 falls below 20, that of 1 below 60: seeds 0 and 2,000,000,000 draw 0 and 4, seed 5 55 and 57, 9 72 and 55
        int[][] due = {{0, 1}, {TOP_SEED, 1}, {5, 1}, {9, 1}, {20, 2}, {1999999999, 1}, {2, 1}, {22, 1}, {13, 1}};
        for (int[] d : due) {
            due("walk(" + d[0] + ", 0, 2, 1)", x.walk(d[0], 0, 2, 1), d[1]);
            due("walk(" + d[0] + ", 0, 0, 1), where he is", x.walk(d[0], 0, 0, 1), 0);
        }
        for (int seed : new int[] {-1, TOP_SEED + 1, -2, TOP_SEED + 19, LEAST, MOST}) {
            due("walk(" + seed + ", 0, 2, 1)", x.walk(seed, 0, 2, 1), -2);
            due("walk(" + seed + ", 0, 2, 0), no way", x.walk(seed, 0, 2, 0), -2);
        }
    }

    private static void walkNoWay() {
        DowrySteps x = hill();
        due("walk(0, 0, 2, 0)", x.walk(0, 0, 2, 0), NONE);
        due("walk(2000000000, 2, 4, 0)", x.walk(TOP_SEED, 2, 4, 0), NONE);
        due("walk(0, 1, 2, 3)", x.walk(0, 1, 2, 3), NONE);
    }

    private static void walksAtBounds() {
        // first draws of the seeds 2,000,000,000 on: 4 42 12 51 21 59 30 68 38 76 47 85 55 94 64 2 73 11 81 20
        DowrySteps x = Checks.told("mountain places 2 years 1;path 0 to 1;bride path 0 in 0;suitor skill 0 spite 0 for 0;rain 0 is 42;walker leap 0 at 0;court 0 0;");
        int[] there = {0, 1, 1, 2, 2, 3, 3, 4, 4, 5, 6, 7, 8, 9, 10, 10, 11, 11, 12, 12};
        for (int n = 1; n <= 20; n++) {
            due("walks(2000000000, " + n + ", ..)", x.walks(TOP_SEED, n, 0, 1, 0), there[n - 1]);
        }
        due("walks(0, 1, ..): 0", x.walks(0, 1, 0, 1, 0), 0);
        due("walks(0, 4, ..): 0 38 8 47", x.walks(0, 4, 0, 1, 0), 1);
        for (int n : new int[] {0, 21, -1, 22, LEAST, MOST}) {
            due("walks(0, " + n + ", ..)", x.walks(0, n, 0, 1, 0), -2);
        }
        for (int seed : new int[] {-1, TOP_SEED + 1, LEAST, MOST}) {
            due("walks(" + seed + ", 1, ..)", x.walks(seed, 1, 0, 1, 0), -2);
        }
    }

    private static void walksThere() {
        String text = "mountain places 2 years 2;path 0 to 1;bride path 0 in 0;suitor skill 1 spite 0 for 0;rain 0 is 100;walker leap 9 at 0;court 0 0;";
        due("of 20, each missed on the flat", Checks.told(text).walks(0, 20, 0, 1, 0), 0);
        due("of 20, none missed", Checks.told(text).walks(0, 20, 0, 1, 1), 20);
        due("of 20, each missed on the way up", Checks.told(text + "height 1 9;").walks(0, 20, 0, 1, 0), 0);
        due("of 20, each missed on the way down, at whose foot he lies", Checks.told(text + "height 0 9;").walks(0, 20, 0, 1, 0), 20);
        due("of 20, where he is", Checks.told(text).walks(0, 20, 0, 0, 0), 20);
    }

    /** All seven steps on one path, and all eight places, one step on the last path. */
    private static void longWalks() {
        StringBuilder seven = new StringBuilder("mountain places 2 years 1;path 0 to 1;bride path 0 in 0;walker leap 0 at 0;");
        for (int s = 0; s < 7; s++) {
            seven.append("suitor skill ").append(7 - s).append(" spite ").append(s == 6 ? 80 : 0).append(" for 0;court ").append(s).append(" 0;");
        }
        DowrySteps x = Checks.told(seven.toString());
        // the seventh draws of the seeds 0 .. 9
        int[] seventh = {45, 10, 76, 73, 38, 4, 69, 34, 31, 97};
        for (int seed = 0; seed < 10; seed++) {
            due("walk(" + seed + ", 0, 1, 0), the seventh step below 80", x.walk(seed, 0, 1, 0), seventh[seed] < 80 ? 0 : 1);
        }
        DowrySteps y = Checks.told("mountain places 8 years 1;path 7 to 6;path 6 to 5;path 5 to 4;path 4 to 3;path 3 to 2;path 2 to 1;path 1 to 0;bride path 6 in 0;"
            + "suitor skill 0 spite 0 for 0;court 0 0;rain 0 is 39;walker leap 0 at 7;");
        due("all eight places, missed on the last path", y.walk(1, 0, 0, 0), 1);
        due("all eight places, a draw of 47", y.walk(3, 0, 0, 0), 0);
        due("of seeds 0 .. 3 the last", y.walks(0, 4, 0, 0, 0), 1);
    }

    private static void walksNoneAndNoSuch() {
        noSuch((x, w, to, y) -> x.walks(0, 1, w, to, y), true, true);
        DowrySteps x = hill();
        due("walks(0, 1, 0, 2, 0), no way", x.walks(0, 1, 0, 2, 0), NONE);
        due("walks(2000000000, 20, 2, 4, 0), no way", x.walks(TOP_SEED, 20, 2, 4, 0), NONE);
        due("walks(0, 21, 0, 2, 0), no way, no such n", x.walks(0, 21, 0, 2, 0), -2);
        due("walks(-1, 1, 0, 2, 0), no way, no such seed", x.walks(-1, 1, 0, 2, 0), -2);
    }
}
