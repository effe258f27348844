/** Promises 11 to 16, 24, 30 to 32 and 35 by sentence: what is asked of paths in years. */
public final class PathEdgesTest {
    private static final int NONE = -1;
    private static final int LEAST = -2147483648;
    private static final int MOST = 2147483647;
    private static final String BARE = "mountain places 2 years 1;";

    /** Steps: path 0 none; path 1 in the years 1 to 3, two in year 2; path 2 in the last year alone; path 3 in the first alone. */
    private static final String HILL = "mountain places 5 years 5;height 0 30;height 1 20;height 2 99;path 0 to 1;path 1 to 2;path 2 to 3;path 3 to 4;"
        + "bride path 1 in 1;bride path 1 in 2;bride path 2 in 4;bride path 3 in 0;suitor skill 2 spite 10 for 0;suitor skill 0 spite 20 for 1 0;"
        + "suitor skill 30 spite 30 for 2;suitor skill 0 spite 40 for 3;court 0 0;court 1 1;court 2 2;court 3 3;"
        + "rain 0 is 100;rain 1 is 50;rain 2 is 40;rain 4 is 10;";

    private interface OfPathAndYear {
        long ask(int path, int year);
    }

    private static void due(String call, long got, long want) {
        Checks.due(call, got, want);
    }

    public static void main(String[] args) {
        stepsAndLeaps();
        chances();
        leapsOfAll();
        Sentences.everyPromise(11, 12, 13, 14, 15, 16, 24, 30, 31, 32, 35);
        Checks.finish("edges of paths");
    }

    private static void stepsAndLeaps() {
        Sentences.ofPromise(11, "STEPS of a PATH in a YEAR", PathEdgesTest::steps);
        Sentences.ofPromise(11, "-2: there are none such", () -> noSuch((p, y) -> hill().steps(p, y), (p, y) -> bare().steps(p, y)));
        Sentences.ofPromise(12, "The SUITOR whose the i-th of them is. NONE: there are not so many", PathEdgesTest::whoseOfNotSoMany);
        Sentences.ofPromise(12, "-2 likewise", () -> noSuch((p, y) -> hill().whose(p, y, 0), (p, y) -> bare().whose(p, y, 0)));
        Sentences.ofPromise(13, "LEAP of a PATH in a YEAR", PathEdgesTest::leaps);
        Sentences.ofPromise(13, "-2 likewise", () -> noSuch((p, y) -> hill().leap(p, y), (p, y) -> bare().leap(p, y)));
        Sentences.ofPromise(14, "The YEAR behind the last one in which a PATH has a STEP", PathEdgesTest::rotsBehindTheLast);
        Sentences.ofPromise(14, "NONE: it has none at all, or has one in the last YEAR", PathEdgesTest::rotsOfNoneOrLast);
        Sentences.ofPromise(14, "-2: there is none such", () -> noSuchPath((p, y) -> hill().rots(p), (p, y) -> bare().rots(p)));
        Sentences.ofPromise(15, "so that its LEAP is no more than n (0 .. 99)", PathEdgesTest::lacksAtBounds);
        Sentences.ofPromise(15, "NONE: no number of them does", PathEdgesTest::lacksByNone);
        Sentences.ofPromise(15, "-2: there are none such", () -> noSuch((p, y) -> hill().lacks(p, y, 9), (p, y) -> bare().lacks(p, y, 9)));
    }

    private static void chances() {
        Sentences.ofPromise(16, "The chance to be SAFE along a PATH in a YEAR, above (what 0), below (1)", PathEdgesTest::safeAboveBelow);
        Sentences.ofPromise(16, "-2: there are none such", () -> noSuch((p, y) -> hill().safe(p, y, 1), (p, y) -> bare().safe(p, y, 1)));
        Sentences.ofPromise(30, "The most STEPS that a PATH can have in a YEAR by any COURTING", PathEdgesTest::mostByAny);
        Sentences.ofPromise(30, "-2: there are none such", () -> noSuch((p, y) -> hill().most(p, y), (p, y) -> bare().most(p, y)));
        Sentences.ofPromise(31, "is missed most often (FALL), the least of several", PathEdgesTest::worstOfSeveral);
        Sentences.ofPromise(31, "NONE: there is no STEP", PathEdgesTest::worstOfNone);
        Sentences.ofPromise(31, "-2: there are none such", () -> noSuch((p, y) -> hill().worst(p, y == 0 ? 1 : y), (p, y) -> bare().worst(p, y)));
        Sentences.ofPromise(32, "The YEAR in which a PATH is SAFEST, the first of several", PathEdgesTest::dryFirst);
        Sentences.ofPromise(32, "-2: there is none such", () -> noSuchPath((p, y) -> hill().dry(p), (p, y) -> bare().dry(p)));
    }

    private static void leapsOfAll() {
        Sentences.ofPromise(24, "The least leap (0 .. 99) with which one could come from a PLACE to another one", PathEdgesTest::needLeast);
        Sentences.ofPromise(24, "NONE: by none", PathEdgesTest::needByNone);
        Sentences.ofPromise(24, "-2: there are none such", PathEdgesTest::needNoSuch);
        Sentences.ofPromise(35, "for one who leaps n (0 .. 99)", PathEdgesTest::partsAtBounds);
        Sentences.ofPromise(35, "those of one part can come to one another", PathEdgesTest::partsOneAndAll);
        Sentences.ofPromise(35, "-2: there are none such, no MOUNTAIN", PathEdgesTest::partsNoSuch);
    }

    private static DowrySteps hill() {
        return Checks.told(HILL);
    }

    private static DowrySteps bare() {
        return Checks.told(BARE);
    }

    /** Of the hill's four paths, each year but what is beside them; of a mountain without paths none. */
    private static void noSuch(OfPathAndYear ofHill, OfPathAndYear ofBare) {
        for (int wrong : new int[] {-1, -2, 5, 6, 30, LEAST, MOST}) {
            due("year " + wrong, ofHill.ask(1, wrong), -2);
            due("both " + wrong, ofHill.ask(wrong, wrong), -2);
        }
        due("the last year is such a one", ofHill.ask(2, 4) == -2 ? 0 : 1, 1);
        due("the first year is such a one", ofHill.ask(3, 0) == -2 ? 0 : 1, 1);
        noSuchPath(ofHill, ofBare);
    }

    private static void noSuchPath(OfPathAndYear ofHill, OfPathAndYear ofBare) {
        for (int wrong : new int[] {-1, -2, 4, 5, 10, LEAST, MOST}) {
            due("path " + wrong, ofHill.ask(wrong, 2), -2);
        }
        due("the first path is such a one", ofHill.ask(0, 2) == -2 ? 0 : 1, 1);
        due("the last path is such a one", ofHill.ask(3, 2) == -2 ? 0 : 1, 1);
        due("path 0 of none", ofBare.ask(0, 0), -2);
    }

    private static void steps() {
        int[][] due = {{0, 0, 0, 0, 0}, {0, 1, 2, 1, 0}, {0, 0, 0, 0, 1}, {1, 0, 0, 0, 0}};
        DowrySteps x = hill();
        for (int p = 0; p < 4; p++) {
            for (int y = 0; y < 5; y++) {
                due("steps(" + p + ", " + y + ")", x.steps(p, y), due[p][y]);
            }
        }
    }

    private static void whoseOfNotSoMany() {
        DowrySteps x = hill();
        int[] due = {NONE, 0, 1, NONE, NONE};
        for (int i = -1; i <= 3; i++) {
            due("whose(1, 2, " + i + ")", x.whose(1, 2, i), due[i + 1]);
            due("whose(0, 2, " + i + ") of none", x.whose(0, 2, i), NONE);
        }
        for (int i : new int[] {-2, 7, 8, LEAST, MOST}) {
            due("whose(1, 2, " + i + ")", x.whose(1, 2, i), NONE);
        }
        StringBuilder text = new StringBuilder(BARE + "path 0 to 1;bride path 0 in 0;");
        for (int s = 0; s < 7; s++) {
            text.append("suitor skill 0 spite 0 for 0;");
        }
        DowrySteps full = Checks.told(text.toString());
        for (int s = 6; s >= 0; s--) {
            full.court(s, 0);
            due("the first of " + (7 - s), full.whose(0, 0, 0), s);
            due("the last of " + (7 - s), full.whose(0, 0, 6 - s), 6);
            due("behind the last of " + (7 - s), full.whose(0, 0, 7 - s), NONE);
        }
    }

    private static void leaps() {
        int[][] due = {{10, 10, 10, 10, 10}, {79, 40, 27, 40, 79}, {99, 99, 99, 99, 50}, {0, 0, 0, 0, 0}};
        DowrySteps x = hill();
        for (int p = 0; p < 4; p++) {
            for (int y = 0; y < 5; y++) {
                due("leap(" + p + ", " + y + ")", x.leap(p, y), due[p][y]);
            }
        }
    }

    private static void rotsBehindTheLast() {
        DowrySteps x = hill();
        due("rots(1), the last step is in year 3", x.rots(1), 4);
        due("rots(3), the last step is in year 0", x.rots(3), 1);
        x.court(0, NONE);
        due("rots(1), the last step is in year 2", x.rots(1), 3);
    }

    private static void rotsOfNoneOrLast() {
        DowrySteps x = hill();
        due("rots(0) of none", x.rots(0), NONE);
        due("rots(2), in the last year", x.rots(2), NONE);
        x.court(2, NONE);
        due("rots(2) of none any more", x.rots(2), NONE);
        DowrySteps one = Checks.told(BARE + "path 0 to 1;bride path 0 in 0;suitor skill 0 spite 0 for 0;court 0 0;");
        due("rots(0) of one year, the last", one.rots(0), NONE);
        DowrySteps y = Checks.told("mountain places 2 years 3;path 0 to 1;bride path 0 in 0;bride path 0 in 1;suitor skill 9 spite 0 for 0 1;suitor skill 1 spite 0 for 0 1;");
        y.court(0, 0);
        due("rots(0), in the last year and each ahead of it", y.rots(0), NONE);
        y.court(0, NONE);
        y.court(1, 0);
        due("rots(0), in the last year no more", y.rots(0), 2);
        y.court(1, 1);
        due("rots(0), in the last year just so", y.rots(0), NONE);
    }

    private static void lacksAtBounds() {
        DowrySteps x = hill();
        // path 2 is 99 high: 0 .. 98 leave it out of reach
        int[][] due = {{99, 0}, {98, 1}, {50, 1}, {49, 2}, {33, 2}, {32, 3}, {2, 49}, {1, 98}, {0, NONE}};
        for (int[] d : due) {
            due("lacks(2, 0, " + d[0] + ")", x.lacks(2, 0, d[0]), d[1]);
            due("lacks(2, 4, " + d[0] + ") with a step", x.lacks(2, 4, d[0]), d[1] > 0 ? d[1] - 1 : d[1]);
        }
        due("lacks(1, 2, 27), as it is", x.lacks(1, 2, 27), 0);
        due("lacks(1, 2, 26), just one more", x.lacks(1, 2, 26), 1);
        for (int n : new int[] {-1, 100, -2, 101, LEAST, MOST}) {
            due("lacks(2, 0, " + n + ")", x.lacks(2, 0, n), -2);
        }
    }

    private static void lacksByNone() {
        DowrySteps x = hill();
        due("lacks(1, 2, 0)", x.lacks(1, 2, 0), NONE);
        due("lacks(0, 0, 0)", x.lacks(0, 0, 0), NONE);
        due("lacks(3, 0, 0) on the flat", x.lacks(3, 0, 0), 0);
        due("lacks(3, 1, 0) on the flat, no step", x.lacks(3, 1, 0), 0);
        due("lacks(3, 0, 99) on the flat", x.lacks(3, 0, 99), 0);
    }

    private static void safeAboveBelow() {
        DowrySteps x = hill();
        int[][] above = {{1, 1, 1, 1, 1}, {1, 1, 9, 1, 1}, {1, 1, 1, 1, 9}, {0, 1, 1, 1, 1}};
        int[][] below = {{1, 1, 1, 1, 1}, {1, 2, 25, 1, 1}, {1, 1, 1, 1, 10}, {1, 1, 1, 1, 1}};
        for (int p = 0; p < 4; p++) {
            for (int y = 0; y < 5; y++) {
                due("safe(" + p + ", " + y + ", 0)", x.safe(p, y, 0), above[p][y]);
                due("safe(" + p + ", " + y + ", 1)", x.safe(p, y, 1), below[p][y]);
            }
        }
        for (int what : new int[] {-1, 2, 3, LEAST, MOST}) {
            due("safe(1, 1, " + what + ")", x.safe(1, 1, what), -2);
        }
    }

    private static void mostByAny() {
        DowrySteps x = hill();
        int[][] due = {{0, 0, 0, 0, 0}, {0, 2, 2, 1, 0}, {0, 0, 0, 0, 1}, {1, 0, 0, 0, 0}};
        for (int s = -1; s < 4; s++) {
            x.court(s, NONE);
            for (int p = 0; p < 4; p++) {
                for (int y = 0; y < 5; y++) {
                    due("most(" + p + ", " + y + ")", x.most(p, y), due[p][y]);
                }
            }
        }
        StringBuilder text = new StringBuilder(BARE + "path 0 to 1;bride path 0 in 0;bride path 0 in 0;");
        for (int s = 1; s <= 7; s++) {
            text.append("suitor skill 0 spite 0 for 0 1;");
            due("most of " + s + " suitors for two brides", Checks.told(text.toString()).most(0, 0), s);
        }
    }

    private static void worstOfSeveral() {
        DowrySteps x = hill();
        due("worst(1, 2) of two alike", x.worst(1, 2), 0);
        due("worst(3, 0)", x.worst(3, 0), 3);
        x.court(1, 0);
        due("worst(1, 1): the refused one falls more", x.worst(1, 1), 1);
        // rain 90 and 10 of spite fall by 100; rain 90 and 100 of spite by no more
        String text = BARE + "path 0 to 1;bride path 0 in 0;suitor skill 1 spite 10 for 0;suitor skill 0 spite 100 for 0;suitor skill 2 spite 100 for 0;"
            + "court 0 0;court 1 0;court 2 0;rain 0 is ";
        due("100 at most: the least of two", Checks.told(text + "90;").worst(0, 0), 0);
        due("of 99 and 100 the second", Checks.told(text + "89;").worst(0, 0), 1);
        due("of three in much rain the first", Checks.told(text + "100;").worst(0, 0), 0);
        due("without rain", Checks.told(text + "0;").worst(0, 0), 1);
        StringBuilder seven = new StringBuilder(BARE + "path 0 to 1;bride path 0 in 0;");
        for (int s = 0; s < 7; s++) {
            seven.append("suitor skill 0 spite ").append(50 + s).append(" for 0;court ").append(s).append(" 0;");
        }
        DowrySteps full = Checks.told(seven.toString());
        for (int s = 6; s > 0; s--) {
            due("the last of " + (s + 1) + ", who is refused", full.worst(0, 0), s);
            full.court(s, NONE);
        }
    }

    private static void worstOfNone() {
        DowrySteps x = hill();
        due("worst(0, 0)", x.worst(0, 0), NONE);
        due("worst(1, 0), the year ahead", x.worst(1, 0), NONE);
        due("worst(1, 4), the year behind", x.worst(1, 4), NONE);
        DowrySteps dry = Checks.told(BARE + "path 0 to 1;bride path 0 in 0;suitor skill 0 spite 0 for 0;court 0 0;");
        due("a step that is never missed", dry.worst(0, 0), 0);
    }

    private static void dryFirst() {
        DowrySteps x = hill();
        due("dry(0), always safe", x.dry(0), 0);
        due("dry(1), safe ahead of the steps", x.dry(1), 0);
        due("dry(3), not the first year", x.dry(3), 1);
        DowrySteps sure = Checks.told("mountain places 2 years 3;path 0 to 1;bride path 0 in 0;suitor skill 0 spite 0 for 0;court 0 0;");
        due("a step that is never missed is as safe as none", sure.dry(0), 0);
        DowrySteps y = Checks.told("mountain places 2 years 5;path 0 to 1;bride path 0 in 0;suitor skill 30 spite 0 for 0;court 0 0;rain 0 is 100;"
            + "rain 1 is 2;rain 2 is 1;rain 3 is 1;rain 4 is 2;");
        due("the first of two alike", y.dry(0), 2);
        DowrySteps z = Checks.told("mountain places 2 years 3;path 0 to 1;bride path 0 in 0;suitor skill 30 spite 0 for 0;court 0 0;rain 0 is 100;"
            + "rain 1 is 100;rain 2 is 99;");
        due("the last one", z.dry(0), 2);
        DowrySteps wet = Checks.told("mountain places 2 years 2;path 0 to 1;bride path 0 in 0;suitor skill 30 spite 0 for 0;court 0 0;rain 0 is 100;rain 1 is 100;");
        due("never safe: the first", wet.dry(0), 0);
    }

    private static void needLeast() {
        DowrySteps x = hill();
        due("need(0, 1, 0)", x.need(0, 1, 0), 10);
        due("need(1, 0, 0)", x.need(1, 0, 0), 10);
        due("need(2, 3, 0), 99", x.need(2, 3, 0), 99);
        due("need(3, 4, 0), 0", x.need(3, 4, 0), 0);
        due("need(0, 4, 0), the greatest on its way", x.need(0, 4, 0), 99);
        due("need(0, 4, 4), the greatest on its way", x.need(4, 0, 4), 79);
        due("need(0, 2, 2)", x.need(0, 2, 2), 27);
        due("need(2, 2, 0), to where one is", x.need(2, 2, 0), 0);
        DowrySteps two = Checks.told("mountain places 4 years 1;height 1 50;height 2 40;path 0 to 1;path 1 to 3;path 0 to 2;path 2 to 3;");
        due("of two ways the lesser", two.need(0, 3, 0), 40);
        StringBuilder ten = new StringBuilder("mountain places 8 years 1;height 7 99;path 0 to 1;path 0 to 2;path 0 to 3;path 0 to 4;path 0 to 5;path 0 to 6;"
            + "path 0 to 7;path 1 to 2;path 1 to 3;");
        due("over the seventh of nine", Checks.told(ten.toString()).need(1, 7, 0), 99);
        due("over the seventh of ten", Checks.told(ten + "path 6 to 7;").need(1, 7, 0), 99);
        due("over the tenth of ten", Checks.told(ten.toString().replace("path 0 to 7", "path 2 to 3") + "path 6 to 7;").need(1, 7, 0), 99);
    }

    private static void needByNone() {
        due("without a path", bare().need(0, 1, 0), NONE);
        DowrySteps x = Checks.told("mountain places 4 years 1;path 0 to 1;path 2 to 3;");
        due("to another part", x.need(1, 2, 0), NONE);
        due("to another part, back", x.need(3, 0, 0), NONE);
    }

    private static void needNoSuch() {
        DowrySteps x = hill();
        for (int wrong : new int[] {-1, -2, 5, 6, 8, LEAST, MOST}) {
            due("need(" + wrong + ", 0, 0)", x.need(wrong, 0, 0), -2);
            due("need(0, " + wrong + ", 0)", x.need(0, wrong, 0), -2);
            due("need(0, 0, " + wrong + ")", x.need(0, 0, wrong), -2);
        }
        due("need(4, 0, 4)", x.need(4, 3, 4), 0);
    }

    private static void partsAtBounds() {
        DowrySteps x = hill();
        int[][] due = {{0, 4}, {9, 4}, {10, 3}, {78, 3}, {79, 2}, {98, 2}, {99, 1}};
        for (int[] d : due) {
            due("parts(0, " + d[0] + ")", x.parts(0, d[0]), d[1]);
        }
        for (int n : new int[] {-1, 100, -2, 101, LEAST, MOST}) {
            due("parts(0, " + n + ")", x.parts(0, n), -2);
        }
    }

    private static void partsOneAndAll() {
        due("two places without a path", bare().parts(0, 99), 2);
        due("eight places without a path", Checks.told("mountain places 8 years 1;").parts(0, 0), 8);
        DowrySteps row = Checks.told("mountain places 8 years 1;path 7 to 6;path 6 to 5;path 5 to 4;path 4 to 3;path 3 to 2;path 2 to 1;path 1 to 0;");
        due("eight places in a row", row.parts(0, 0), 1);
        DowrySteps x = hill();
        int[] parts = {3, 2, 2, 2, 3};
        for (int y = 0; y < 5; y++) {
            due("by a step of suitor 0 or 1 in year " + y, x.parts(y, 40), parts[y]);
        }
        due("a ring and a pair", Checks.told("mountain places 5 years 1;path 0 to 3;path 3 to 4;path 4 to 0;path 1 to 2;").parts(0, 0), 2);
    }

    private static void partsNoSuch() {
        DowrySteps x = hill();
        for (int year : new int[] {-1, -2, 5, 6, LEAST, MOST}) {
            due("parts(" + year + ", 0)", x.parts(year, 0), -2);
        }
        due("parts(4, 0), the last year", x.parts(4, 0), 4);
        due("without a mountain", new DowrySteps().parts(0, 0), -2);
    }
}
