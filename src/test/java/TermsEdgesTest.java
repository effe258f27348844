/** Terms II to VI by sentence: courting, steps, leaps, falls, ways, courtings in their order, what is measured, draws. */
public final class TermsEdgesTest {
    private static final int NONE = -1;
    private static final String HEAD = "mountain places 2 years 30;height 1 99;path 0 to 1;";
    /** A square whose two ways from 0 to 3 go over 1 (paths 0, 1) and over 2 (paths 2, 3), all on the flat. */
    private static final String SQUARE = "mountain places 4 years 1;path 0 to 1;path 1 to 3;path 0 to 2;path 2 to 3;walker leap 0 at 0;";

    private static void due(String call, long got, long want) {
        Checks.due(call, got, want);
    }

    public static void main(String[] args) {
        courting();
        stepsAndLeaps();
        waysAndChances();
        courtingsInOrder();
        draws();
        Checks.finish("edges of terms");
    }

    private static void courting() {
        Sentences.ofTerm(2, "whom each SUITOR COURTS (nobody, if it is not told)", TermsEdgesTest::nobodyIfNotTold);
        Sentences.ofTerm(2, "A BRIDE TAKES of those who COURT her the one of most skill, of several the least", TermsEdgesTest::taken);
        Sentences.ofTerm(2, "the others are REFUSED: each is a HEART", TermsEdgesTest::refused);
    }

    private static void stepsAndLeaps() {
        Sentences.ofTerm(2, "from her YEAR on and so many behind as he has skill", TermsEdgesTest::yearsOfSteps);
        Sentences.ofTerm(2, "one of each SUITOR who COURTS a BRIDE of that PATH", TermsEdgesTest::stepOfEach);
        Sentences.ofTerm(2, "by numbers of SUITORS", TermsEdgesTest::stepsByNumbers);
        Sentences.ofTerm(2, "how far its PLACES are apart by height", TermsEdgesTest::drops);
        Sentences.ofTerm(2, "LEAP: DROP by STEPS and one, rounded up", TermsEdgesTest::leapsRoundedUp);
        Sentences.ofTerm(2, "either way, if LEAP is no more than his leap", TermsEdgesTest::noMoreThanHisLeap);
        Sentences.ofTerm(2, "if its SUITOR is REFUSED, his spite, together (100 at most)", TermsEdgesTest::falls);
        Sentences.ofTerm(2, "on all PATHS that he goes along (apart)", TermsEdgesTest::apart);
    }

    private static void waysAndChances() {
        Sentences.ofTerm(3, "rows of PLACES from where he is, no PLACE twice, along PATHS that he can go", TermsEdgesTest::noPlaceTwice);
        Sentences.ofTerm(3, "SHORTEST: of the fewest PLACES; the least row of these", TermsEdgesTest::shortestWays);
        Sentences.ofTerm(3, "SAFEST: the greatest chance to be SAFE; of these the fewest PLACES, then the least row", TermsEdgesTest::safestWays);
        Sentences.ofTerm(3, "FRACTIONS are told in lowest terms (0 / 1)", TermsEdgesTest::lowestTerms);
    }

    private static void courtingsInOrder() {
        Sentences.ofTerm(4, "each SUITOR one of those for whom he is, or nobody", TermsEdgesTest::allCourtings);
        Sentences.ofTerm(4, "by which something is so those with the fewest HEARTS", TermsEdgesTest::fewestHearts);
        Sentences.ofTerm(4, "the first: nobody ahead of BRIDES, SUITOR 0 first", TermsEdgesTest::firstOfThem);
        Sentences.ofTerm(5, "three numbers each: a PATH, a YEAR, its LEAP", TermsEdgesTest::threeEach);
        Sentences.ofTerm(5, "A COURTING AGREES, if all is so by it", TermsEdgesTest::agreesIfAllIsSo);
    }

    private static void draws() {
        Sentences.ofTerm(6, "modulo 2,147,483,648 (at first it is the seed)", TermsEdgesTest::moduloWraps);
        Sentences.ofTerm(6, "a draw: x / 65536, cut, modulo 100", TermsEdgesTest::cutModulo);
        Sentences.ofTerm(6, "PATH by PATH, STEP by STEP, a draw each", TermsEdgesTest::aDrawEach);
        Sentences.ofTerm(6, "it is missed, if it is below its FALL", TermsEdgesTest::belowItsFall);
        Sentences.ofTerm(6, "the lower PLACE of that PATH (of two alike the one from which he came), and goes no farther",
            TermsEdgesTest::liesAtTheFoot);
    }

    private static void nobodyIfNotTold() {
        DowrySteps x = Checks.fine(HEAD + "bride path 0 in 0;suitor skill 30 spite 0 for 0;suitor skill 30 spite 0 for 0;court 1 0;");
        due("suitor(0, 3)", x.suitor(0, 3), NONE);
        due("suitor(0, 4)", x.suitor(0, 4), 0);
        due("suitor(1, 3)", x.suitor(1, 3), 0);
        due("steps(0, 0)", x.steps(0, 0), 1);
    }

    private static void taken() {
        String brides = HEAD + "bride path 0 in 0;bride path 0 in 0;";
        String three = brides + "suitor skill 4 spite 0 for 0;suitor skill 5 spite 0 for 0;suitor skill 5 spite 0 for 0 1;";
        DowrySteps x = Checks.fine(three);
        due("of none", x.bride(0, 3), NONE);
        x.court(0, 0);
        due("of one", x.bride(0, 3), 0);
        x.court(2, 0);
        due("of more skill by one", x.bride(0, 3), 2);
        x.court(1, 0);
        due("of two alike the least", x.bride(0, 3), 1);
        x.court(2, 1);
        due("the other bride", x.bride(1, 3), 2);
        due("of those who court her alone", x.bride(0, 3), 1);
        DowrySteps bounds = Checks.fine(brides + "suitor skill 0 spite 0 for 0;suitor skill 0 spite 0 for 0;suitor skill 30 spite 0 for 0;"
            + "court 0 0;court 1 0;");
        due("of skill 0 twice", bounds.bride(0, 3), 0);
        bounds.court(2, 0);
        due("of skill 30", bounds.bride(0, 3), 2);
    }

    private static void refused() {
        StringBuilder text = new StringBuilder(HEAD + "bride path 0 in 0;");
        for (int s = 0; s < 7; s++) {
            text.append("suitor skill ").append(s).append(" spite 0 for 0;");
        }
        DowrySteps x = Checks.fine(text.toString());
        due("hearts() of none who courts", x.hearts(), 0);
        for (int s = 0; s < 7; s++) {
            x.court(s, 0);
            due("hearts() of " + (s + 1), x.hearts(), s);
            due("the one of most skill", x.suitor(s, 4), 0);
            due("the one ahead of him", s == 0 ? 1 : x.suitor(s - 1, 4), 1);
        }
    }

    private static void yearsOfSteps() {
        int[][] cases = {{10, 5, 10, 15}, {10, 0, 10, 10}, {10, 1, 10, 11}, {0, 30, 0, 29}, {0, 29, 0, 29}, {0, 28, 0, 28},
            {29, 30, 29, 29}, {29, 0, 29, 29}, {15, 14, 15, 29}, {15, 13, 15, 28}, {15, 30, 15, 29}};
        for (int[] c : cases) {
            DowrySteps x = Checks.fine(HEAD + "bride path 0 in " + c[0] + ";suitor skill " + c[1] + " spite 0 for 0;court 0 0;");
            for (int y = 0; y < 30; y++) {
                due("steps(0, " + y + ") of skill " + c[1] + " from " + c[0], x.steps(0, y), y >= c[2] && y <= c[3] ? 1 : 0);
            }
        }
    }

    private static void stepOfEach() {
        DowrySteps x = Checks.fine("mountain places 3 years 1;path 0 to 1;path 1 to 2;bride path 0 in 0;bride path 0 in 0;bride path 1 in 0;"
            + "suitor skill 1 spite 0 for 0;suitor skill 0 spite 0 for 0 2;suitor skill 0 spite 0 for 1;suitor skill 0 spite 0 for 2;"
            + "court 0 0;court 1 0;court 2 1;");
        due("two of one bride, one of another", x.steps(0, 0), 3);
        due("nobody courts there", x.steps(1, 0), 0);
        x.court(1, 2);
        due("one went away", x.steps(0, 0), 2);
        due("he came here", x.steps(1, 0), 1);
    }

    private static void stepsByNumbers() {
        DowrySteps x = Checks.fine(HEAD + "bride path 0 in 0;bride path 0 in 0;suitor skill 1 spite 0 for 1;suitor skill 9 spite 0 for 0;"
            + "suitor skill 5 spite 0 for 0;court 2 0;court 1 0;court 0 1;");
        for (int i = 0; i < 3; i++) {
            due("whose(0, 0, " + i + ")", x.whose(0, 0, i), i);
        }
    }

    private static void drops() {
        DowrySteps x = Checks.fine("mountain places 4 years 1;height 1 99;height 2 98;height 3 98;path 0 to 1;path 2 to 1;path 1 to 3;"
            + "path 2 to 3;");
        due("up 99", x.path(0, 2), 99);
        due("up 1", x.path(1, 2), 1);
        due("down 1", x.path(2, 2), 1);
        due("on the flat", x.path(3, 2), 0);
    }

    private static void leapsRoundedUp() {
        int[][] leaps = {{0, 0, 0, 0, 0, 0, 0, 0}, {1, 1, 1, 1, 1, 1, 1, 1}, {7, 4, 3, 2, 2, 2, 1, 1}, {8, 4, 3, 2, 2, 2, 2, 1},
            {9, 5, 3, 3, 2, 2, 2, 2}, {98, 49, 33, 25, 20, 17, 14, 13}, {99, 50, 33, 25, 20, 17, 15, 13}};
        for (int[] due : leaps) {
            StringBuilder text = new StringBuilder("mountain places 2 years 1;height 1 " + due[0] + ";path 0 to 1;bride path 0 in 0;");
            for (int s = 0; s < 7; s++) {
                text.append("suitor skill 0 spite 0 for 0;");
            }
            DowrySteps x = Checks.fine(text.toString());
            for (int steps = 0; steps <= 7; steps++) {
                due("leap over " + due[0] + " by " + steps, x.leap(0, 0), due[steps]);
                x.court(steps, 0);
            }
        }
    }

    private static void noMoreThanHisLeap() {
        String text = "mountain places 2 years 1;height 1 9;path 0 to 1;bride path 0 in 0;suitor skill 0 spite 0 for 0;"
            + "walker leap 8 at 0;walker leap 9 at 0;walker leap 8 at 1;walker leap 9 at 1;";
        DowrySteps x = Checks.fine(text);
        int[] reach = {1, 3, 2, 3};
        for (int w = 0; w < 4; w++) {
            due("reach(" + w + ", 0)", x.reach(w, 0), reach[w]);
        }
        DowrySteps y = Checks.fine(text.replace("leap 8", "leap 4").replace("leap 9", "leap 5") + "court 0 0;");
        for (int w = 0; w < 4; w++) {
            due("reach(" + w + ", 0) by one step", y.reach(w, 0), reach[w]);
        }
    }

    private static void falls() {
        // the one who is taken (spite 100) falls by rain alone; the refused one by rain and spite
        int[][] cases = {{0, 0, 1, 1}, {0, 100, 0, 1}, {0, 99, 1, 100}, {60, 40, 0, 1}, {60, 39, 1, 250}, {60, 41, 0, 1}, {60, 100, 0, 1},
            {99, 0, 1, 10000}, {99, 1, 0, 1}, {99, 2, 0, 1}, {100, 0, 0, 1}, {100, 100, 0, 1}, {50, 0, 1, 4}, {1, 98, 99, 10000}};
        for (int[] c : cases) {
            DowrySteps x = Checks.fine("mountain places 2 years 1;path 0 to 1;bride path 0 in 0;suitor skill 9 spite 100 for 0;suitor skill 8 spite "
                + c[1] + " for 0;rain 0 is " + c[0] + ";court 0 0;court 1 0;");
            due("safe above, rain " + c[0] + " spite " + c[1], x.safe(0, 0, 0), c[2]);
            due("safe below, rain " + c[0] + " spite " + c[1], x.safe(0, 0, 1), c[3]);
        }
    }

    private static void apart() {
        DowrySteps x = Checks.fine("mountain places 3 years 1;path 0 to 1;path 1 to 2;bride path 0 in 0;bride path 1 in 0;"
            + "suitor skill 0 spite 0 for 0;suitor skill 0 spite 0 for 1;rain 0 is 50;walker leap 0 at 0;court 0 0;court 1 1;");
        due("one path", x.safest(0, 1, 0, 1), 2);
        due("two paths", x.safest(0, 2, 0, 1), 4);
        due("no path", x.safest(0, 0, 0, 1), 1);
    }

    private static void noPlaceTwice() {
        StringBuilder all = new StringBuilder("mountain places 5 years 1;");
        for (int a = 0; a < 5; a++) {
            for (int b = a + 1; b < 5; b++) {
                all.append("path ").append(a).append(" to ").append(b).append(';');
            }
        }
        DowrySteps x = Checks.fine(all + "walker leap 0 at 2;");
        // 1 straight, 3 over one, 6 over two, 6 over three
        due("ways(0, 4, 0), all joined", x.ways(0, 4, 0), 16);
        due("ways(0, 2, 0), where he is", x.ways(0, 2, 0), 1);
        due("shortest(0, 2, 0), where he is", x.shortest(0, 2, 0), 1);
        due("goes(0, 2, 0, 0)", x.goes(0, 2, 0, 0), 2);
        due("ways on the square", Checks.fine(SQUARE).ways(0, 3, 0), 2);
        due("ways on a cut square", Checks.fine(SQUARE + "height 2 1;").ways(0, 3, 0), 1);
        due("ways to where none leads", Checks.fine(SQUARE + "height 3 1;").ways(0, 3, 0), 0);
        DowrySteps eight = Checks.fine("mountain places 8 years 1;path 7 to 6;path 6 to 5;path 5 to 4;path 4 to 3;path 3 to 2;path 2 to 1;path 1 to 0;"
            + "walker leap 0 at 7;");
        due("a way of all eight places", eight.shortest(0, 0, 0), 8);
        due("its last place", eight.goes(0, 0, 0, 7), 0);
        due("its last place, safely", eight.place(0, 0, 0, 7), 0);
    }

    private static void shortestWays() {
        DowrySteps x = Checks.fine(SQUARE);
        due("of two alike the least row", x.goes(0, 3, 0, 1), 1);
        DowrySteps y = Checks.fine("mountain places 5 years 1;path 0 to 1;path 1 to 2;path 2 to 4;path 0 to 3;path 3 to 4;walker leap 0 at 0;");
        due("fewer places ahead of a lesser row", y.shortest(0, 4, 0), 3);
        due("its second place", y.goes(0, 4, 0, 1), 3);
        DowrySteps late = Checks.fine("mountain places 5 years 1;path 0 to 4;path 4 to 2;path 4 to 3;path 2 to 1;path 3 to 1;walker leap 0 at 0;");
        due("alike at first, then the least", late.goes(0, 1, 0, 2), 2);
    }

    private static void safestWays() {
        due("of two alike the least row", Checks.fine(SQUARE).place(0, 3, 0, 1), 1);
        String wet = SQUARE + "bride path 0 in 0;bride path 3 in 0;suitor skill 0 spite 0 for 0;suitor skill 0 spite 0 for 1;";
        DowrySteps x = Checks.fine(wet + "rain 0 is 1;court 0 0;");
        due("the greater chance ahead of the lesser row", x.place(0, 3, 0, 1), 2);
        x.court(1, 1);
        due("of two chances alike the least row", x.place(0, 3, 0, 1), 1);
        DowrySteps y = Checks.fine("mountain places 5 years 1;path 0 to 1;path 1 to 2;path 2 to 4;path 0 to 3;path 3 to 4;walker leap 0 at 0;"
            + "bride path 3 in 0;suitor skill 0 spite 0 for 0;rain 0 is 1;");
        due("of chances alike the fewest places", y.safest(0, 4, 0, 2), 3);
        y.court(0, 0);
        due("the greatest chance ahead of the fewest places", y.safest(0, 4, 0, 2), 4);
        DowrySteps none = Checks.fine("mountain places 4 years 1;path 0 to 1;path 1 to 2;path 2 to 3;path 0 to 3;walker leap 0 at 0;"
            + "bride path 0 in 0;bride path 3 in 0;suitor skill 0 spite 0 for 0;suitor skill 0 spite 0 for 1;rain 0 is 100;court 0 0;court 1 1;");
        due("of no chance at all the fewest places", none.safest(0, 3, 0, 2), 2);
        due("it is a way", none.safest(0, 3, 0, 0), 0);
        due("above 0 stands 1", none.safest(0, 3, 0, 1), 1);
    }

    private static void lowestTerms() {
        int[][] cases = {{0, 1, 1}, {100, 0, 1}, {50, 1, 2}, {75, 1, 4}, {20, 4, 5}, {98, 1, 50}, {1, 99, 100}, {99, 1, 100}};
        for (int[] c : cases) {
            DowrySteps x = Checks.fine("mountain places 2 years 1;path 0 to 1;bride path 0 in 0;suitor skill 0 spite 0 for 0;walker leap 0 at 0;"
                + "rain 0 is " + c[0] + ";court 0 0;");
            due("safe(0, 0, 0) in rain " + c[0], x.safe(0, 0, 0), c[1]);
            due("safe(0, 0, 1) in rain " + c[0], x.safe(0, 0, 1), c[2]);
            due("safest(0, 1, 0, 0) in rain " + c[0], x.safest(0, 1, 0, 0), c[1]);
            due("safest(0, 1, 0, 1) in rain " + c[0], x.safest(0, 1, 0, 1), c[2]);
        }
        StringBuilder seven = new StringBuilder("mountain places 8 years 2;rain 0 is 1;rain 1 is 99;walker leap 0 at 0;");
        for (int p = 0; p < 7; p++) {
            seven.append("path ").append(p).append(" to ").append(p + 1).append(';');
        }
        seven.append("bride path 0 in 0;bride path 2 in 0;bride path 4 in 0;bride path 6 in 0;");
        for (int s = 0; s < 7; s++) {
            seven.append("suitor skill 1 spite 0 for ").append(s % 4).append(";court ").append(s).append(' ').append(s % 4).append(';');
        }
        DowrySteps x = Checks.fine(seven.toString());
        due("99 to the seventh", x.safest(0, 7, 0, 0), 93206534790699L);
        due("100 to the seventh", x.safest(0, 7, 0, 1), 100000000000000L);
        due("1 to the seventh", x.safest(0, 7, 1, 0), 1);
        due("100 to the seventh below 1", x.safest(0, 7, 1, 1), 100000000000000L);
        due("all eight places", x.safest(0, 7, 1, 2), 8);
    }

    private static void allCourtings() {
        StringBuilder text = new StringBuilder("mountain places 2 years 1;path 0 to 1;bride path 0 in 0;bride path 0 in 0;bride path 0 in 0;bride path 0 in 0;"
            + "walker leap 0 at 0;");
        int[] courtings = {1, 5, 25, 125, 625, 3125, 15625, 78125};
        for (int s = 0; s <= 7; s++) {
            due("courtings of " + s, Checks.fine(text.toString()).courtings(0, 0, 0), courtings[s]);
            text.append("suitor skill 0 spite 0 for 3 1 0 2;");
        }
        due("of one for one, one for two, one for three", Checks.fine("mountain places 2 years 1;path 0 to 1;bride path 0 in 0;bride path 0 in 0;"
            + "bride path 0 in 0;walker leap 0 at 0;suitor skill 0 spite 0 for 2;suitor skill 0 spite 0 for 0 2;suitor skill 0 spite 0 for 1 0 2;")
            .courtings(0, 0, 0), 24);
    }

    private static void fewestHearts() {
        String text = "mountain places 2 years 1;height 1 9;path 0 to 1;bride path 0 in 0;bride path 0 in 0;walker leap 3 at 0;";
        due("two steps to one bride", Checks.fine(text + "suitor skill 0 spite 0 for 0;suitor skill 0 spite 0 for 0;").fewest(0, 1, 0), 1);
        due("two steps to two brides", Checks.fine(text + "suitor skill 0 spite 0 for 0;suitor skill 0 spite 0 for 0 1;").fewest(0, 1, 0), 0);
        due("one step is not enough", Checks.fine(text + "suitor skill 0 spite 0 for 0;").fewest(0, 1, 0), NONE);
        due("none is needed", Checks.fine(text + "suitor skill 0 spite 0 for 0;").fewest(0, 0, 0), 0);
    }

    private static void firstOfThem() {
        String text = "mountain places 2 years 1;height 1 9;path 0 to 1;bride path 0 in 0;bride path 0 in 0;bride path 0 in 0;";
        DowrySteps x = Checks.fine(text + "walker leap 5 at 0;suitor skill 0 spite 0 for 2 1;suitor skill 9 spite 0 for 2 1 0;");
        due("suitor 0: nobody ahead of brides", x.whom(0, 1, 0, 0), NONE);
        due("suitor 1: the least of the brides", x.whom(0, 1, 0, 1), 0);
        due("nobody at all, if none is needed", x.whom(0, 0, 0, 1), NONE);
        DowrySteps y = Checks.fine(text + "walker leap 3 at 0;suitor skill 0 spite 0 for 2 1;suitor skill 9 spite 0 for 2 1;");
        due("suitor 0 first: the least bride", y.whom(0, 1, 0, 0), 1);
        due("suitor 1: the one whom he leaves", y.whom(0, 1, 0, 1), 2);
        DowrySteps z = Checks.fine(text + "walker leap 3 at 0;suitor skill 0 spite 0 for 1;suitor skill 9 spite 0 for 1;suitor skill 5 spite 0 for 1 2;");
        due("fewest hearts ahead of the first", z.whom(0, 1, 0, 0), NONE);
        due("of these the first", z.whom(0, 1, 0, 1), 1);
        due("the other bride", z.whom(0, 1, 0, 2), 2);
    }

    private static void threeEach() {
        DowrySteps x = Checks.fine("mountain places 2 years 3;height 1 9;path 1 to 0;bride path 0 in 1;suitor skill 0 spite 0 for 0;court 0 0;");
        int[] leaps = {9, 5, 9};
        for (int y = 0; y < 3; y++) {
            Checks.putRow(x, 0, 0, 0, y, leaps[y]);
            due("odd of path 0, year " + y, x.odd(0), NONE);
            Checks.putRow(x, 0, 0, 0, y, leaps[y] - 1);
            due("odd of one less", x.odd(0), 0);
            Checks.putRow(x, 0, 0, 0, y, leaps[y] + 1);
            due("odd of one more", x.odd(0), 0);
        }
    }

    private static void agreesIfAllIsSo() {
        DowrySteps x = Checks.fine("mountain places 2 years 2;height 1 9;path 1 to 0;bride path 0 in 0;suitor skill 0 spite 0 for 0;suitor skill 1 spite 0 for 0;");
        Checks.putRow(x, 0, 0, 0, 0, 5);
        due("one step in year 0", x.agree(0), 2);
        Checks.putRow(x, 0, 0, 0, 0, 5, 0, 1, 9);
        due("and none in year 1", x.agree(0), 1);
        Checks.putRow(x, 0, 0, 0, 1, 9, 0, 0, 5);
        due("told the other way around", x.agree(0), 1);
        Checks.putRow(x, 0, 0, 0, 0, 9, 0, 1, 5);
        due("none and then one", x.agree(0), 0);
        Checks.putRow(x, 0, 0, 0, 0, 5, 0, 0, 5);
        due("the same twice", x.agree(0), 2);
        Checks.putRow(x, 0, 0, 0, 0, 5, 0, 0, 9);
        due("one against the other", x.agree(0), 0);
    }

    /** The first draw of a seed: no step is missed by a fall of as much, each by one more. */
    private static void dueDraw(int seed, int draw) {
        DowrySteps x = Checks.fine("mountain places 2 years 2;path 0 to 1;bride path 0 in 0;suitor skill 1 spite 0 for 0;walker leap 0 at 0;court 0 0;"
            + "rain 0 is " + draw + ";rain 1 is " + (draw + 1) + ";");
        due("walk from seed " + seed + ", fall " + draw, x.walk(seed, 0, 1, 0), 1);
        due("walk from seed " + seed + ", fall " + (draw + 1), x.walk(seed, 0, 1, 1), 0);
    }

    /** The second draw of a seed: the first one's step never falls, the second one's by his spite alone. */
    private static void dueSecond(int seed, int draw) {
        for (int more = 0; more < 2; more++) {
            DowrySteps x = Checks.fine("mountain places 2 years 1;path 0 to 1;bride path 0 in 0;suitor skill 9 spite 100 for 0;suitor skill 8 spite "
                + (draw + more) + " for 0;walker leap 0 at 0;court 0 0;court 1 0;");
            due("walk from seed " + seed + ", second fall " + (draw + more), x.walk(seed, 0, 1, 0), 1 - more);
        }
    }

    private static void moduloWraps() {
        // x is the seed's own, 12345, without a wrap; then what is just below, at, just above a multiple of the modulus
        dueDraw(0, 0);
        dueSecond(0, 68);
        dueDraw(1, 38);
        dueDraw(230538014, 67);
        dueDraw(520343481, 67);
        dueDraw(1798410728, 0);
        dueSecond(204577074, 0);
        dueSecond(801440601, 67);
        dueDraw(1999999999, 33);
        dueDraw(2000000000, 4);
        dueSecond(2000000000, 33);
    }

    private static void cutModulo() {
        // x: 65,536; 65,536 times 50 less 1 and whole; times 99 less 1 and whole; times 100 less 1 and whole; 32,700 likewise
        dueDraw(1742513795, 1);
        dueDraw(125287198, 49);
        dueDraw(1982965379, 50);
        dueDraw(365738782, 98);
        dueDraw(75933315, 99);
        dueDraw(20036382, 99);
        dueDraw(1877714563, 0);
        dueDraw(115981086, 99);
        dueDraw(1973659267, 0);
        // the second x: 65,535 and 65,536; 65,536 times 100 less 1 and whole
        dueSecond(1167983449, 0);
        dueSecond(571119922, 1);
        dueSecond(948503385, 99);
        dueSecond(351639858, 0);
    }

    private static void aDrawEach() {
        // seed 0 draws 0 and 68, seed 7 draws 64 and 6; where there is no step there is no draw
        String three = "mountain places 4 years 1;path 0 to 1;path 1 to 2;path 2 to 3;bride path 0 in 0;bride path 2 in 0;walker leap 0 at 0;"
            + "suitor skill 0 spite 0 for 0;suitor skill 0 spite 0 for 1;";
        DowrySteps x = Checks.fine(three + "rain 0 is 7;court 1 1;");
        due("the first draw on the third path", x.walk(7, 0, 3, 0), 3);
        due("the first draw on the third path, missed", x.walk(0, 0, 3, 0), 2);
        x.court(0, 0);
        due("the second draw on the third path, missed", x.walk(7, 0, 3, 0), 2);
        due("the first draw on the first path, missed", x.walk(0, 0, 3, 0), 0);
        // the first one is refused here, and his spite is his alone: 64 falls below 65, 6 is not below 0
        String two = "mountain places 2 years 1;path 0 to 1;bride path 0 in 0;walker leap 0 at 0;court 0 0;court 1 0;";
        for (int spite = 64; spite <= 65; spite++) {
            String text = two.replace("court 0", "suitor skill 1 spite " + spite + " for 0;suitor skill 2 spite 100 for 0;court 0");
            due("the first draw is suitor 0's", Checks.fine(text).walk(7, 0, 1, 0), spite == 64 ? 1 : 0);
        }
    }

    private static void belowItsFall() {
        dueDraw(7, 64);
        dueDraw(11, 81);
        DowrySteps x = Checks.fine("mountain places 2 years 2;path 0 to 1;bride path 0 in 0;suitor skill 1 spite 0 for 0;walker leap 0 at 0;court 0 0;"
            + "rain 1 is 100;");
        for (int seed = 0; seed < 20; seed++) {
            due("by a fall of 0 none is missed", x.walk(seed, 0, 1, 0), 1);
            due("by a fall of 100 each is missed", x.walk(seed, 0, 1, 1), 0);
        }
    }

    private static void liesAtTheFoot() {
        int[][] cases = {{5, 4, 1}, {4, 5, 0}, {5, 5, 0}, {0, 99, 0}, {99, 0, 1}};
        for (int[] c : cases) {
            DowrySteps x = Checks.fine("mountain places 3 years 1;height 0 " + c[0] + ";height 1 " + c[1] + ";path 1 to 0;path 1 to 2;bride path 0 in 0;"
                + "suitor skill 0 spite 0 for 0;walker leap 99 at 0;rain 0 is 100;court 0 0;");
            due("from " + c[0] + " to " + c[1] + " and no farther", x.walk(5, 0, 2, 0), c[2]);
        }
        DowrySteps second = Checks.fine("mountain places 4 years 1;height 1 9;path 0 to 1;path 1 to 2;path 2 to 3;bride path 1 in 0;"
            + "suitor skill 0 spite 0 for 0;walker leap 99 at 0;rain 0 is 100;court 0 0;");
        due("missed on the second path, down", second.walk(5, 0, 3, 0), 2);
        DowrySteps up = Checks.fine("mountain places 4 years 1;height 2 9;path 0 to 1;path 1 to 2;path 2 to 3;bride path 1 in 0;"
            + "suitor skill 0 spite 0 for 0;walker leap 99 at 0;rain 0 is 100;court 0 0;");
        due("missed on the second path, up", up.walk(5, 0, 3, 0), 1);
    }
}
