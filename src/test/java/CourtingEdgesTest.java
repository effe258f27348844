/** Promises 25 to 29 and 44 to 47 by sentence: all courtings by which somebody comes somewhere, hopes and peace. */
public final class CourtingEdgesTest {
    private static final int NONE = -1;
    private static final int LEAST = -2147483648;
    private static final int MOST = 2147483647;

    /** Over path 0 (99 high) walker 0 needs two steps, walker 1 one, walker 2 none, walker 3 (from its other end) seven. */
    private static final String HILL = "mountain places 3 years 3;height 1 99;path 0 to 1;bride path 0 in 1;bride path 0 in 1;"
        + "suitor skill 1 spite 0 for 0;suitor skill 1 spite 0 for 0 1;suitor skill 0 spite 0 for 1;"
        + "walker leap 33 at 0;walker leap 50 at 0;walker leap 99 at 0;walker leap 13 at 1;court 0 0;court 1 0;";

    /** As many as there can be: seven suitors, each for all four brides, who are all on the one path. */
    private static final String FULL = full();

    private interface OfWay {
        long ask(DowrySteps x, int walker, int to, int year);
    }

    private static String full() {
        StringBuilder text = new StringBuilder("mountain places 2 years 30;height 1 99;path 0 to 1;bride path 0 in 0;bride path 0 in 0;bride path 0 in 0;"
            + "bride path 0 in 0;walker leap 13 at 0;walker leap 15 at 1;walker leap 99 at 0;");
        for (int s = 0; s < 7; s++) {
            text.append("suitor skill ").append(30 - s).append(" spite 0 for 0 1 2 3;");
        }
        return text.toString();
    }

    private static void due(String call, long got, long want) {
        Checks.due(call, got, want);
    }

    public static void main(String[] args) {
        comings();
        hopesAndPeace();
        Sentences.everyPromise(25, 26, 27, 28, 29, 44, 45, 46, 47);
        Checks.finish("edges of courtings");
    }

    private static void comings() {
        Sentences.ofPromise(25, "how many HEARTS. NONE: by none", CourtingEdgesTest::fewestOrNone);
        Sentences.ofPromise(25, "-2: there are none such", () -> noSuch((x, w, to, y) -> x.fewest(w, to, y), true));
        Sentences.ofPromise(26, "(NONE: nobody; none such)", CourtingEdgesTest::whomOrNone);
        Sentences.ofPromise(26, "-2 likewise, no such SUITOR", CourtingEdgesTest::whomNoSuch);
        Sentences.ofPromise(27, "FEWEST so that all WALKERS can come to a PLACE in a YEAR", CourtingEdgesTest::allOfNoneAndMany);
        Sentences.ofPromise(27, "NONE, -2 likewise", CourtingEdgesTest::allNoneAndNoSuch);
        Sentences.ofPromise(28, "By how many COURTINGS a WALKER can come to a PLACE in a YEAR", CourtingEdgesTest::courtingsNoneAndAll);
        Sentences.ofPromise(28, "-2 likewise", () -> noSuch((x, w, to, y) -> x.courtings(w, to, y), true));
        Sentences.ofPromise(29, "The fewest SUITORS who COURT at all by such a one", CourtingEdgesTest::busyNoneAndAll);
        Sentences.ofPromise(28, "By how many COURTINGS a WALKER can come to a PLACE in a YEAR", CourtingEdgesTest::fullOnes);
        Sentences.ofPromise(28, "By how many COURTINGS a WALKER can come to a PLACE in a YEAR", CourtingEdgesTest::smallerBehindGreater);
        Sentences.ofPromise(29, "NONE, -2 likewise", CourtingEdgesTest::busyNoneAndNoSuch);
    }

    private static void hopesAndPeace() {
        Sentences.ofPromise(44, "other than whom he COURTS, who would TAKE him, if he COURTED her (all others as they are)", CourtingEdgesTest::hopesOfOthers);
        Sentences.ofPromise(44, "NONE: there is none, he is not REFUSED", CourtingEdgesTest::hopesOfNone);
        Sentences.ofPromise(44, "-2: there is none such", CourtingEdgesTest::hopesNoSuch);
        Sentences.ofPromise(45, "whether this is one: 1, 0", CourtingEdgesTest::peaceOrNot);
        Sentences.ofPromise(45, "-2: there is no MOUNTAIN", CourtingEdgesTest::peaceWithout);
        Sentences.ofPromise(46, "n (0 .. 40) times (in thought)", CourtingEdgesTest::peacesAtBounds);
        Sentences.ofPromise(46, "NONE: there is none then", CourtingEdgesTest::peacesNone);
        Sentences.ofPromise(46, "-2 likewise, no such n", CourtingEdgesTest::peacesNoSuch);
        Sentences.ofPromise(47, "behind these (or behind all n; NONE: nobody)", CourtingEdgesTest::thenBehind);
        Sentences.ofPromise(47, "-2 likewise, no such SUITOR", CourtingEdgesTest::thenNoSuch);
    }

    private static DowrySteps hill() {
        return Checks.told(HILL);
    }

    /** Walkers 0 .. 3, places 0 .. 2, years 0 .. 2. */
    private static void noSuch(OfWay asking, boolean asksWalker) {
        DowrySteps x = hill();
        for (int wrong : new int[] {-1, -2, 8, 30, 32, LEAST, MOST}) {
            due("walker " + wrong, asking.ask(x, wrong, 0, 0) == -2 ? 1 : 0, asksWalker ? 1 : 0);
            due("place " + wrong, asking.ask(x, 0, wrong, 0), -2);
            due("year " + wrong, asking.ask(x, 0, 0, wrong), -2);
        }
        due("walker 4, one above the last", asking.ask(x, 4, 0, 0) == -2 ? 1 : 0, asksWalker ? 1 : 0);
        due("place 3, one above the last", asking.ask(x, 0, 3, 0), -2);
        due("year 3, one above the last", asking.ask(x, 0, 0, 3), -2);
        due("walker 3, place 2, year 2", asking.ask(x, 3, 2, 2) == -2 ? 1 : 0, 0);
        due("walker 0, place 0, year 0", asking.ask(x, 0, 0, 0) == -2 ? 1 : 0, 0);
        due("without a mountain", asking.ask(new DowrySteps(), 0, 0, 0), -2);
        due("without walkers", asking.ask(Checks.told("mountain places 2 years 1;"), 0, 0, 0) == -2 ? 1 : 0, asksWalker ? 1 : 0);
    }

    private static void fewestOrNone() {
        DowrySteps x = hill();
        int[][] due = {{NONE, 0, 0}, {NONE, 0, 0}, {0, 0, 0}, {NONE, NONE, NONE}};
        for (int w = 0; w < 4; w++) {
            for (int y = 0; y < 3; y++) {
                due("fewest(" + w + ", " + (w == 3 ? 0 : 1) + ", " + y + ")", x.fewest(w, w == 3 ? 0 : 1, y), due[w][y]);
            }
        }
        due("to where no path leads", x.fewest(2, 2, 1), NONE);
        due("to where he is", x.fewest(0, 0, 0), 0);
        DowrySteps full = Checks.told(FULL);
        due("all seven to four brides", full.fewest(0, 1, 0), 3);
        due("all seven in the year of the last skill", full.fewest(0, 1, 24), 3);
        due("one of the seven has rotted", full.fewest(0, 1, 25), NONE);
        due("six to four brides", full.fewest(1, 0, 25), 2);
        due("hearts() as it is", full.hearts(), 0);
        due("count(8) as it is", full.count(8), 0);
    }

    private static void whomOrNone() {
        DowrySteps x = hill();
        int[][] due = {{0, 1, NONE}, {NONE, NONE, 1}, {NONE, NONE, NONE}, {NONE, NONE, NONE}};
        // walker 0 by two brides: suitor 0 nobody is ahead, so 1 and 2 court, 0 and 1 as brides; in year 2 suitor 2 has rotted
        int[][] inYearOne = {{NONE, 0, 1}, {NONE, NONE, 1}, {NONE, NONE, NONE}, {NONE, NONE, NONE}};
        for (int w = 0; w < 4; w++) {
            for (int s = 0; s < 3; s++) {
                int to = w == 3 ? 0 : 1;
                due("whom(" + w + ", " + to + ", 1, " + s + ")", x.whom(w, to, 1, s), inYearOne[w][s]);
                due("whom(" + w + ", " + to + ", 2, " + s + ")", x.whom(w, to, 2, s), w == 1 ? (s == 1 ? 0 : NONE) : due[w][s]);
                due("whom(" + w + ", 2, 1, " + s + "), none such", x.whom(w, 2, 1, s), NONE);
            }
        }
        DowrySteps full = Checks.told(FULL);
        int[] first = {0, 0, 0, 0, 1, 2, 3};
        for (int s = 0; s < 7; s++) {
            due("whom(0, 1, 0, " + s + ") of seven", full.whom(0, 1, 0, s), first[s]);
        }
    }

    private static void whomNoSuch() {
        noSuch((x, w, to, y) -> x.whom(w, to, y, 0), true);
        noSuch((x, w, to, y) -> x.whom(w, to, y, 2), true);
        DowrySteps x = hill();
        for (int suitor : new int[] {-1, 3, -2, 4, 7, LEAST, MOST}) {
            due("whom(0, 1, 1, " + suitor + ")", x.whom(0, 1, 1, suitor), -2);
            due("whom(0, 2, 1, " + suitor + "), none such", x.whom(0, 2, 1, suitor), -2);
        }
    }

    private static void allOfNoneAndMany() {
        String three = HILL.replace("walker leap 13 at 1;", "");
        DowrySteps x = Checks.told(three);
        due("all(1, 1): the one who needs most", x.all(1, 1), 0);
        due("all(1, 0)", x.all(1, 0), NONE);
        due("all(0, 0), where all are", x.all(0, 0), 0);
        due("all(1, 1) of four, one can not", hill().all(0, 1), NONE);
        DowrySteps two = Checks.told(three.replace("for 0 1;", "for 0;").replace("for 1;", "for 0;"));
        due("all(1, 1), two for one bride", two.all(1, 1), 1);
        due("all of no walkers", Checks.told("mountain places 2 years 1;height 1 9;path 0 to 1;").all(1, 0), 0);
        DowrySteps full = Checks.told(FULL);
        due("all from both ends", full.all(1, 0), 3);
        DowrySteps apart = Checks.told("mountain places 3 years 1;height 0 9;height 2 9;path 0 to 1;path 2 to 1;bride path 0 in 0;bride path 1 in 0;"
            + "suitor skill 0 spite 0 for 0;suitor skill 0 spite 0 for 1;walker leap 5 at 0;walker leap 5 at 2;");
        due("each by a path of his own", apart.all(1, 0), 0);
        DowrySteps one = Checks.told("mountain places 3 years 1;height 0 9;height 2 9;path 0 to 1;path 2 to 1;bride path 0 in 0;bride path 1 in 0;"
            + "suitor skill 0 spite 0 for 0 1;walker leap 5 at 0;walker leap 5 at 2;");
        due("one suitor for both paths", one.all(1, 0), NONE);
        due("the first of them by him", one.fewest(0, 1, 0), 0);
        due("the second of them by him", one.fewest(1, 1, 0), 0);
    }

    private static void allNoneAndNoSuch() {
        noSuch((x, w, to, y) -> x.all(to, y), false);
        due("all(2, 1), where no path leads", hill().all(2, 1), NONE);
    }

    private static void courtingsNoneAndAll() {
        DowrySteps x = hill();
        // 2 times 3 times 2 courtings in all
        due("courtings(2, 1, 0), by each", x.courtings(2, 1, 0), 12);
        due("courtings(0, 2, 0), by none", x.courtings(0, 2, 0), 0);
        due("courtings(1, 1, 1), all but nobody at all", x.courtings(1, 1, 1), 11);
        due("courtings(1, 1, 0), a year too early", x.courtings(1, 1, 0), 0);
        due("courtings(0, 1, 1), two or three", x.courtings(0, 1, 1), 7);
        due("courtings(0, 1, 2), suitors 0 and 1", x.courtings(0, 1, 2), 4);
        due("courtings(3, 0, 1), seven needed", x.courtings(3, 0, 1), 0);
        DowrySteps full = Checks.told(FULL);
        due("by all of 5 to the seventh", full.courtings(2, 1, 0), 78125);
        due("by all seven: 4 to the seventh", full.courtings(0, 1, 0), 16384);
        due("by six or seven: and 7 times 4 to the sixth", full.courtings(1, 0, 0), 16384 + 28672);
        due("by six of six, the seventh somehow", full.courtings(1, 0, 25), 4096 * 5);
    }

    private static void busyNoneAndAll() {
        DowrySteps x = hill();
        due("busy(2, 1, 0), none is needed", x.busy(2, 1, 0), 0);
        due("busy(1, 1, 1)", x.busy(1, 1, 1), 1);
        due("busy(0, 1, 1)", x.busy(0, 1, 1), 2);
        DowrySteps full = Checks.told(FULL);
        due("busy, all seven", full.busy(0, 1, 0), 7);
        due("busy, six of seven", full.busy(1, 0, 0), 6);
        due("busy, none of seven", full.busy(2, 1, 0), 0);
        // over 1 by two steps (suitors 1 and 2), straight by one (suitor 0, who can also court in vain)
        String text = "mountain places 4 years 1;height 2 9;path 0 to 1;path 1 to 2;path 0 to 2;path 0 to 3;bride path 2 in 0;bride path 1 in 0;bride path 3 in 0;"
            + "walker leap 4 at 0;";
        DowrySteps two = Checks.told(text.replace("leap 4", "leap 3") + "suitor skill 0 spite 0 for 2 0;suitor skill 0 spite 0 for 1 0;suitor skill 0 spite 0 for 1;");
        due("two who court behind one in vain", two.busy(0, 2, 0), 2);
        DowrySteps one = Checks.told(text.replace("leap 4", "leap 5") + "suitor skill 0 spite 0 for 2;suitor skill 0 spite 0 for 1;");
        due("one behind nobody, or behind one in vain", one.busy(0, 2, 0), 1);
        DowrySteps less = Checks.told("mountain places 3 years 1;height 2 9;height 1 3;path 0 to 1;path 1 to 2;path 0 to 2;bride path 2 in 0;bride path 1 in 0;"
            + "walker leap 3 at 0;suitor skill 0 spite 0 for 1 0;suitor skill 0 spite 0 for 0;suitor skill 0 spite 0 for 0;");
        due("two at first, one later", less.busy(0, 2, 0), 1);
    }

    /** Ten paths, a bride on each of the last four, four walkers: all rows full. */
    private static void fullOnes() {
        String text = "mountain places 8 years 1;height 4 10;height 5 20;height 6 30;height 7 40;path 0 to 1;path 0 to 2;path 0 to 3;path 1 to 2;path 1 to 3;path 2 to 3;"
            + "path 0 to 4;path 1 to 5;path 2 to 6;path 3 to 7;bride path 6 in 0;bride path 7 in 0;bride path 8 in 0;bride path 9 in 0;";
        StringBuilder seven = new StringBuilder(text);
        for (int s = 0; s < 7; s++) {
            seven.append("suitor skill 0 spite 0 for 0 1 2 3;");
        }
        DowrySteps x = Checks.told(seven + "walker leap 99 at 0;walker leap 9 at 1;walker leap 10 at 2;walker leap 9 at 3;");
        int[][] needed = {{0, 0, 0, 0}, {1, 2, 3, 4}, {0, 1, 2, 3}, {1, 2, 3, 4}};
        int[] hearts = {0, 0, 1, 2, 3};
        for (int w = 0; w < 4; w++) {
            for (int to = 4; to < 8; to++) {
                int steps = needed[w][to - 4];
                due("fewest(" + w + ", " + to + ", 0)", x.fewest(w, to, 0), hearts[steps]);
                due("busy(" + w + ", " + to + ", 0)", x.busy(w, to, 0), steps);
                due("whom(" + w + ", " + to + ", 0, 6)", x.whom(w, to, 0, 6), steps == 0 ? NONE : to - 4);
                due("whom of the last who need not", x.whom(w, to, 0, 6 - steps), NONE);
            }
        }
        for (int to = 4; to < 8; to++) {
            due("all(" + to + ", 0)", x.all(to, 0), hearts[needed[1][to - 4]]);
        }
        // by at least one of seven at her: 5 to the seventh less 4 to the seventh; by at least two: 7 times 4 to the sixth fewer
        due("courtings(1, 4, 0)", x.courtings(1, 4, 0), 78125 - 16384);
        due("courtings(3, 5, 0)", x.courtings(3, 5, 0), 78125 - 16384 - 28672);
        due("courtings(0, 7, 0), of all ten paths", x.courtings(0, 7, 0), 78125);
        DowrySteps y = Checks.told(seven + "walker leap 0 at 4;walker leap 0 at 5;walker leap 0 at 6;walker leap 99 at 7;");
        due("the last walker by all ten paths", y.fewest(3, 4, 0), 0);
        due("the last walker by all ten paths, in all", y.courtings(3, 4, 0), 78125);
        due("the first walker by none", y.fewest(0, 7, 0), NONE);
        due("all by none", y.all(4, 0), NONE);
        DowrySteps z = Checks.told(seven + "walker leap 99 at 7;walker leap 9 at 0;walker leap 99 at 6;walker leap 99 at 5;");
        due("all but one who needs a step", z.all(4, 0), 0);
        due("one who needs a step", z.courtings(1, 4, 0), 78125 - 16384);
        DowrySteps steep = Checks.told("mountain places 8 years 1;height 1 1;height 2 2;height 3 3;height 4 4;height 5 5;height 6 6;height 7 7;path 0 to 1;path 0 to 2;"
            + "path 0 to 3;path 0 to 4;path 0 to 5;path 0 to 6;path 0 to 7;path 1 to 2;path 2 to 3;path 3 to 4;walker leap 99 at 1;walker leap 0 at 2;"
            + "walker leap 99 at 3;walker leap 0 at 0;");
        due("one by all ten paths, the next by none", steep.all(0, 0), NONE);
        due("the first", steep.fewest(0, 0, 0), 0);
        due("the second", steep.fewest(1, 0, 0), NONE);
        due("the fourth, who is there", steep.fewest(3, 0, 0), 0);
    }

    /** What was sought on a greater mountain leaves nothing for a smaller one. */
    private static void smallerBehindGreater() {
        DowrySteps x = new DowrySteps();
        for (int round = 0; round < 3; round++) {
            Checks.tell(x, FULL);
            due("courtings of seven", x.courtings(0, 1, 0), 16384);
            Checks.putRow(x, 0, 0, 0, 0, 13);
            due("agree of seven", x.agree(0), 16384);
            Checks.tell(x, HILL);
            due("courtings of three", x.courtings(0, 1, 1), 7);
            due("fewest of three", x.fewest(3, 0, 1), NONE);
            Checks.putRow(x, 0, 0, 0, 1, 50);
            due("agree of three", x.agree(0), 4);
            due("sure of three", x.sure(0, 0), NONE);
            Checks.tell(x, "mountain places 2 years 1;height 1 9;path 0 to 1;walker leap 8 at 0;walker leap 9 at 0;");
            due("courtings of none, he cannot", x.courtings(0, 1, 0), 0);
            due("courtings of none, he can", x.courtings(1, 1, 0), 1);
        }
    }

    private static void busyNoneAndNoSuch() {
        noSuch((x, w, to, y) -> x.busy(w, to, y), true);
        due("busy(3, 0, 1)", hill().busy(3, 0, 1), NONE);
        due("busy(0, 1, 0)", hill().busy(0, 1, 0), NONE);
        due("busy(0, 2, 0)", hill().busy(0, 2, 0), NONE);
    }

    private static void hopesOfOthers() {
        String text = "mountain places 2 years 1;path 0 to 1;bride path 0 in 0;bride path 0 in 0;bride path 0 in 0;suitor skill 5 spite 0 for 2 1 0;"
            + "suitor skill 5 spite 0 for 0 1 2;suitor skill 4 spite 0 for 1 0 2;suitor skill 6 spite 0 for 2;";
        DowrySteps x = Checks.told(text + "court 0 0;court 1 0;");
        due("of two free ones the first", x.hopes(1), 1);
        x.court(0, 1);
        x.court(1, 1);
        due("the first, not his own", x.hopes(1), 0);
        x.court(2, 0);
        due("she would leave one of less skill", x.hopes(1), 0);
        x.court(0, 0);
        x.court(1, 0);
        x.court(2, 1);
        due("he is the least of two alike", x.hopes(0), NONE);
        due("she would leave one of skill less by one", x.hopes(1), 1);
        x.court(3, 2);
        x.court(2, NONE);
        x.court(0, 1);
        x.court(1, 1);
        x.court(2, 0);
        due("one of skill 4 is in the way of none of 5", x.hopes(1), 0);
        x.court(2, 1);
        due("one of skill 4 finds the free one", x.hopes(2), 0);
        x.court(1, 0);
        due("to one of skill 5 he is too little, to one of 6 likewise", x.hopes(2), NONE);
        DowrySteps alike = Checks.told("mountain places 2 years 1;path 0 to 1;bride path 0 in 0;bride path 0 in 0;suitor skill 6 spite 0 for 0;"
            + "suitor skill 5 spite 0 for 0 1;suitor skill 5 spite 0 for 1 0;court 0 0;court 1 0;court 2 1;");
        due("alike, of a lesser number: she would take him", alike.hopes(1), 1);
        alike.court(1, 1);
        alike.court(2, 0);
        due("alike, of a greater number: she would not", alike.hopes(2), NONE);
    }

    private static void hopesOfNone() {
        DowrySteps x = hill();
        due("hopes(0), he is taken", x.hopes(0), NONE);
        due("hopes(1), he is refused", x.hopes(1), 1);
        due("hopes(2), he courts nobody", x.hopes(2), NONE);
        x.court(0, NONE);
        due("hopes(1), he is not refused", x.hopes(1), NONE);
        DowrySteps one = Checks.told("mountain places 2 years 1;path 0 to 1;bride path 0 in 0;bride path 0 in 0;suitor skill 1 spite 0 for 0;"
            + "suitor skill 0 spite 0 for 0;court 0 0;court 1 0;");
        due("hopes(1), for no other", one.hopes(1), NONE);
    }

    private static void hopesNoSuch() {
        DowrySteps x = hill();
        for (int wrong : new int[] {-1, 3, -2, 4, 7, LEAST, MOST}) {
            due("hopes(" + wrong + ")", x.hopes(wrong), -2);
        }
        due("without suitors", Checks.told("mountain places 2 years 1;").hopes(0), -2);
    }

    private static void peaceOrNot() {
        DowrySteps x = hill();
        due("one hopes", x.peace(), 0);
        x.court(2, 1);
        due("one still hopes", x.peace(), 0);
        x.court(1, 1);
        due("the other is refused, but hopes for none", x.peace(), 1);
        due("hearts() in peace", x.hearts(), 1);
        due("nobody courts", Checks.told(FULL).peace(), 1);
        due("without suitors", Checks.told("mountain places 2 years 1;").peace(), 1);
    }

    private static void peaceWithout() {
        DowrySteps x = new DowrySteps();
        due("peace()", x.peace(), -2);
        due("peace() behind an empty mountain()", Checks.tell(x, HILL) + Checks.tell(x, "") > 0 ? x.peace() : 0, -2);
        due("peaces(0)", x.peaces(0), -2);
    }

    /** Suitors of skill 6 - s at bride 0 all: one after the other goes to the first free bride, then one above another. */
    private static String chain(int suitors, int brides) {
        StringBuilder text = new StringBuilder("mountain places 2 years 1;path 0 to 1;");
        for (int b = 0; b < brides; b++) {
            text.append("bride path 0 in 0;");
        }
        for (int s = 0; s < suitors; s++) {
            text.append("suitor skill ").append(s).append(" spite 0 for");
            for (int b = 0; b < brides; b++) {
                text.append(' ').append(b);
            }
            text.append(";court ").append(s).append(" 0;");
        }
        return text.toString();
    }

    private static void peacesAtBounds() {
        // suitors 0, 1, 2 of skills 0, 1, 2 at bride 0: 0 goes to 1, 1 to 1 (0 is refused), 0 to 2: three times
        DowrySteps x = Checks.told(chain(3, 3));
        int[] due = {NONE, NONE, NONE, 3, 3};
        for (int n = 0; n <= 4; n++) {
            due("peaces(" + n + ")", x.peaces(n), due[n]);
        }
        due("peaces(40)", x.peaces(40), 3);
        due("suitor(0, 3): in thought alone", x.suitor(0, 3), 0);
        due("hearts(): in thought alone", x.hearts(), 2);
        DowrySteps calm = Checks.told(chain(1, 1));
        due("peaces(0) in peace", calm.peaces(0), 0);
        due("peaces(40) in peace", calm.peaces(40), 0);
    }

    private static void peacesNone() {
        DowrySteps x = hill();
        due("peaces(0), one hopes", x.peaces(0), NONE);
        due("peaces(1)", x.peaces(1), 1);
        DowrySteps y = Checks.told(chain(3, 3));
        due("peaces(2), one too few", y.peaces(2), NONE);
    }

    private static void peacesNoSuch() {
        DowrySteps x = hill();
        for (int n : new int[] {-1, 41, -2, 42, LEAST, MOST}) {
            due("peaces(" + n + ")", x.peaces(n), -2);
            due("then(0, " + n + ")", x.then(0, n), -2);
        }
        due("without a mountain", new DowrySteps().peaces(0), -2);
        due("without a mountain, 40", new DowrySteps().peaces(40), -2);
    }

    private static void thenBehind() {
        DowrySteps x = Checks.told(chain(3, 3) + "suitor skill 0 spite 0 for 0;");
        int[][] due = {{0, 0, 0}, {1, 0, 0}, {1, 1, 0}, {2, 1, 0}, {2, 1, 0}};
        for (int n = 0; n <= 4; n++) {
            for (int s = 0; s < 3; s++) {
                due("then(" + s + ", " + n + ")", x.then(s, n), due[n][s]);
                due("then(" + s + ", 40)", x.then(s, 40), due[4][s]);
            }
            due("then(3, " + n + "), nobody", x.then(3, n), NONE);
        }
        due("suitor(0, 3): in thought alone", x.suitor(0, 3), 0);
        DowrySteps seven = Checks.told(chain(7, 2));
        // five hearts stay: 0 goes to bride 1, then 1, 2, 3, 4, 5 in his place; 6 stays where he is
        int[] behind = {1, 1, 1, 1, 1, 1, 0};
        due("peaces(40) of seven", seven.peaces(40), 6);
        for (int s = 0; s < 7; s++) {
            due("then(" + s + ", 0) of seven", seven.then(s, 0), 0);
            due("then(" + s + ", 40) of seven", seven.then(s, 40), behind[s]);
            due("then(" + s + ", " + s + ") of seven", seven.then(s, s), 0);
        }
    }

    private static void thenNoSuch() {
        DowrySteps x = hill();
        for (int wrong : new int[] {-1, 3, -2, 4, 7, LEAST, MOST}) {
            due("then(" + wrong + ", 0)", x.then(wrong, 0), -2);
            due("then(" + wrong + ", 40)", x.then(wrong, 40), -2);
        }
        due("then(2, 40)", x.then(2, 40), NONE);
        due("without a mountain", new DowrySteps().then(0, 0), -2);
        due("without suitors", Checks.told("mountain places 2 years 1;").then(0, 0), -2);
    }
}
