/** Every promise in its turn, on small mountains whose answers were worked out by hand. */
public final class PromisesTest {
    private static final int NONE = -1;

    /** LEAP of path 1: 20, then 7 in the years 1 to 3, 10 in year 4, 20 in year 5. */
    private static final String HILL =
        "mountain places 4 years 6;\n"
        + "height 1 10; height 2 30; height 3 30;\n"
        + "path 0 to 1; path 1 to 2; path 2 to 3; path 0 to 2;\n"
        + "bride path 1 in 1; bride path 3 in 0;\n"
        + "suitor skill 2 spite 40 for 0 1;\n"
        + "suitor skill 3 spite 30 for 0;\n"
        + "suitor skill 2 spite 90 for 1;\n"
        + "rain 1 is 20; rain 3 is 75;\n"
        + "walker leap 10 at 0; walker leap 0 at 3;\n"
        + "court 0 0; court 1 0;\n";

    /** From 0 to 3 there are three ways: over 4 (wet), over 1 and 2 (dry), over 5 (wet). */
    private static final String RING =
        "mountain places 6 years 3;"
        + "height 3 40; height 4 20; height 5 20; height 1 5; height 2 10;"
        + "path 0 to 5; path 5 to 3; path 0 to 4; path 3 to 4; path 0 to 1; path 1 to 2; path 2 to 3;"
        + "bride path 0 in 0; bride path 3 in 0; bride path 6 in 1;"
        + "suitor skill 9 spite 0 for 0; suitor skill 9 spite 10 for 1; suitor skill 30 spite 5 for 2;"
        + "suitor skill 5 spite 50 for 0 1 2;"
        + "rain 0 is 10; rain 1 is 100; rain 2 is 3; rain 1 is 30;"
        + "walker leap 20 at 0; walker leap 30 at 0; walker leap 9 at 4;"
        + "court 0 0; court 1 1; court 2 2; court 3 0; court 3 1;";

    private static void due(String call, long got, long want) {
        Checks.due(call, got, want);
    }

    private static DowrySteps hill() {
        return Checks.told(HILL);
    }

    private static DowrySteps ring() {
        return Checks.told(RING);
    }

    public static void main(String[] args) {
        newObject();
        tapeAndMountain();
        tellings();
        courtingAsItIs();
        stepsAndLeaps();
        chances();
        waysThere();
        safestWays();
        fewestHearts();
        moreOfPaths();
        moreOfWalkers();
        measured();
        hopesAndPeace();
        walks();
        counts();
        images();
        slots();
        wrongArguments();
        Checks.finish("promises");
    }

    /** Promise 1. */
    private static void newObject() {
        DowrySteps x = new DowrySteps();
        due("NONE", DowrySteps.NONE, NONE);
        due("hearts() of a new object", x.hearts(), -2);
        due("peace() of a new object", x.peace(), -2);
        due("reach(0, 0) of a new object", x.reach(0, 0), -2);
        for (int what = 0; what <= 9; what++) {
            due("count(" + what + ") of a new object", x.count(what), 0);
        }
        DowrySteps other = hill();
        due("hearts() of another object", other.hearts(), 1);
        due("hearts() of the new one still", x.hearts(), -2);
    }

    /** Promises 2 to 5, of the TAPE. */
    private static void tapeAndMountain() {
        DowrySteps x = new DowrySteps();
        due("fault(0) ahead of any", x.fault(0), 0);
        due("fault(1) ahead of any", x.fault(1), NONE);
        due("fault(2) ahead of any", x.fault(2), NONE);
        for (int i = 1; i <= 70; i++) {
            due("feed", x.feed(0x20202020, 0x20202020, 0x0a0a0a0a, 0x20202020, 0x20202020), 20 * i);
        }
        due("feed beyond 1400", x.feed(1, 2, 3, 4, 5), NONE);
        due("count(7) behind it", x.count(7), 1400);
        due("end(1401)", x.end(1401), NONE);
        due("end(-1)", x.end(-1), NONE);
        due("end(1381)", x.end(1381), 1381);
        due("feed beyond 1400 by one", x.feed(1, 2, 3, 4, 5), NONE);
        due("end(1382)", x.end(1382), NONE);
        due("end(1380)", x.end(1380), 1380);
        due("feed up to 1400", x.feed(0x20202020, 0x20202020, 0x20202020, 0x20202020, 0x20202020), 1400);
        due("mountain() of blanks", x.mountain(), 0);
        due("count(7) behind mountain()", x.count(7), 0);
        due("end(0)", x.end(0), 0);
        due("end(1)", x.end(1), NONE);
        // "moun" "tain" "plac" "es 2" "year", "s 1;" and what stands behind the end
        due("feed", x.feed(0x6d6f756e, 0x7461696e, 0x706c6163, 0x65732032, 0x79656172), 20);
        due("feed", x.feed(0x7320313b, 0xffffffff, 0, 0, 0), 40);
        due("end(24)", x.end(24), 24);
        // the words run together: mountainplaces is no word that can stand there
        due("mountain()", x.mountain(), -4);
        due("fault(0)", x.fault(0), 1);
        due("fault(1)", x.fault(1), 0);
        due("tell", Checks.tell(x, "mountain places2years\n1;"), 1);
        due("fault(0)", x.fault(0), 0);
        due("fault(1)", x.fault(1), NONE);
        due("fault(-1)", x.fault(-1), NONE);
        due("count(0)", x.count(0), 2);
        due("tell a fault", Checks.tell(x, " mountain places 3 years 2; height 3 1;"), -4);
        due("fault(0) of it", x.fault(0), 2);
        due("fault(1) of it", x.fault(1), 35);
        due("count(0) stays", x.count(0), 2);
        due("count(7) behind a fault", x.count(7), 0);
        due("hearts() stays", x.hearts(), 0);
        due("tell nothing", Checks.tell(x, ""), 0);
        due("fault(0) of nothing", x.fault(0), 0);
        nothingIsThere(x);
        due("tell much", Checks.tell(x, HILL), 19);
        due("tell blanks", Checks.tell(x, " \n "), 0);
        nothingIsThere(x);
    }

    private static void nothingIsThere(DowrySteps x) {
        due("hearts() without", x.hearts(), -2);
        due("peace() without", x.peace(), -2);
        due("peaces(0) without", x.peaces(0), -2);
        due("parts(0, 5) without", x.parts(0, 5), -2);
        due("need(0, 0, 0) without", x.need(0, 0, 0), -2);
        due("all(0, 0) without", x.all(0, 0), -2);
        due("suitor(0, 0) without", x.suitor(0, 0), -2);
        due("bride(0, 0) without", x.bride(0, 0), -2);
        due("path(0, 0) without", x.path(0, 0), -2);
        for (int what = 0; what <= 9; what++) {
            due("count(" + what + ") without", x.count(what), 0);
        }
    }

    private static void dueFault(String text, int fault, int place) {
        DowrySteps x = new DowrySteps();
        due("mountain() of " + text, Checks.tell(x, text), -4);
        due("fault(0) of " + text, x.fault(0), fault);
        due("fault(1) of " + text, x.fault(1), place);
    }

    /** Promises 4 to 6: what can be told, and its FAULTS. */
    private static void tellings() {
        String m = "mountain places 3 years 2;";
        int n = m.length();
        dueFault("height 0 1;", 1, 0);
        dueFault(";", 1, 0);
        dueFault("mountain places 3 years 2", 1, 25);
        dueFault("mountain places 3 years 2  \n", 1, 28);
        dueFault("mountain places 3 years 2;;", 1, 26);
        dueFault("mountain places 1 years 2;", 2, 16);
        dueFault("mountain places 9 years 2;", 2, 16);
        dueFault("mountain places 8 years 0;", 2, 24);
        dueFault("mountain places 8 years 31;", 2, 24);
        dueFault("mountain places 99999999999999999999 years 1;", 2, 16);
        dueFault("mountain places 4294967298 years 1;", 2, 16);
        dueFault("mountain Places 3 years 2;", 1, 9);
        dueFault("mountain places 3 years 2;\tpath", 1, 26);
        dueFault(m + m, 1, n);
        dueFault(m + "mount places", 1, n);
        dueFault(m + "math 0 to 1;", 1, n);
        dueFault(m + "patt 0 to 1;", 1, n);
        dueFault(m + "pith 0 to 1;", 1, n);
        dueFault(m + "height 3 1;", 2, n + 7);
        dueFault(m + "height 2 100;", 2, n + 9);
        dueFault(m + "height 2;", 1, n + 8);
        dueFault(m + "path 0 to 0;", 2, n + 10);
        dueFault(m + "path 3 to 0;", 2, n + 5);
        dueFault(m + "path 0 to 3;", 2, n + 10);
        dueFault(m + "path 0 too 1;", 1, n + 7);
        dueFault(m + "path 0 to 1; path 1 to 0;", 2, n + 23);
        dueFault(m + "path 0 to 1; path 0 to 1;", 2, n + 23);
        dueFault(m + "bride path 0 in 0;", 2, n + 11);
        dueFault(m + "path 0 to 1; bride path 0 in 2;", 2, n + 29);
        dueFault(m + "suitor skill 1 spite 1 for 0;", 2, n + 27);
        String b = m + "path 0 to 1;bride path 0 in 0;bride path 0 in 1;";
        int k = b.length();
        dueFault(b + "suitor skill 31 spite 1 for 0;", 2, k + 13);
        dueFault(b + "suitor skill 30 spite 101 for 0;", 2, k + 22);
        dueFault(b + "suitor skill 30 spite 100 for;", 1, k + 29);
        dueFault(b + "suitor skill 3 spite 10 for 1 1;", 2, k + 30);
        dueFault(b + "suitor skill 3 spite 10 for 1 0 1;", 2, k + 32);
        dueFault(b + "suitor skill 3 spite 10 for 1 0 2;", 2, k + 32);
        String four = b + "bride path 0 in 0;bride path 0 in 1;suitor skill 3 spite 10 for 3 1 2 0";
        due("a suitor for four", Checks.told(four + ";").suitor(0, 2), 15);
        dueFault(four + " 2;", 2, four.length() + 1);
        dueFault(four + " 4;", 2, four.length() + 1);
        dueFault(four + " for", 1, four.length() + 1);
        dueFault(b + "suitor skill 3 spite 10 for 1; court 0 0;", 2, k + 39);
        dueFault(b + "suitor skill 3 spite 10 for 1; court 1 1;", 2, k + 37);
        dueFault(b + "suitor skill 3 spite 10 for 1; court 0 2;", 2, k + 39);
        dueFault(m + "rain 2 is 0;", 2, n + 5);
        dueFault(m + "rain 1 is 101;", 2, n + 10);
        dueFault(m + "rain 1 in 10;", 1, n + 7);
        dueFault(m + "walker leap 100 at 0;", 2, n + 12);
        dueFault(m + "walker leap 99 at 3;", 2, n + 18);
        String w = "walker leap 1 at 0;";
        dueFault(m + w + w + w + w + w, 3, n + 4 * w.length());
        due("four walkers", Checks.told(m + w + w + w + w).count(5), 4);
        String bride = "bride path 0 in 0;";
        dueFault(b + bride + bride + bride, 3, k + 2 * bride.length());
        due("four brides", Checks.told(b + bride + bride).count(3), 4);
        String s = "suitor skill 0 spite 0 for 0;";
        dueFault(b + s + s + s + s + s + s + s + "suitor no", 3, k + 7 * s.length());
        due("seven suitors", Checks.told(b + s + s + s + s + s + s + s).count(4), 7);
        tellTenPaths();
        tellNumbers();
        tellOthers();
    }

    /** What was told of other mountains, or ahead of a fault, is not there without being told. */
    private static void tellOthers() {
        String full = "mountain places 2 years 2;height 0 9;height 1 7;path 0 to 1;bride path 0 in 0;suitor skill 1 spite 0 for 0;"
            + "rain 0 is 50;rain 1 is 60;walker leap 0 at 1;court 0 0;";
        DowrySteps x = new DowrySteps();
        for (int i = 0; i < 3; i++) {
            due("tell the full one", Checks.tell(x, full), 10);
            due("tell it with a fault", Checks.tell(x, full + "rain 2 is 1;"), -4);
            due("safe(0, 1, 1)", x.safe(0, 1, 1), 5);
            due("tell a bare one", Checks.tell(x, "mountain places 3 years 3;path 0 to 1;path 1 to 2;bride path 0 in 0;"
                + "suitor skill 2 spite 0 for 0;"), 5);
            due("path(0, 2) without heights", x.path(0, 2), 0);
            due("suitor(0, 3) without a court", x.suitor(0, 3), NONE);
            due("court", x.court(0, 0), NONE);
            due("safe(0, 1, 1) without rain", x.safe(0, 1, 1), 1);
            due("reach(0, 0) without walkers", x.reach(0, 0), -2);
        }
    }

    private static void tellTenPaths() {
        StringBuilder text = new StringBuilder("mountain places 8 years 1;");
        for (int i = 1; i < 8; i++) {
            text.append("path 0 to ").append(i).append(';');
        }
        text.append("path 1 to 2;path 1 to 3;path 1 to 4;");
        due("ten paths", Checks.told(text.toString()).count(2), 10);
        dueFault(text + " path", 3, text.length() + 1);
    }

    private static void tellNumbers() {
        String text = "mountain places 0003 years 000000000000000000002;height 0 7;height 2 9;"
            + "path 2 to 0;path 0 to 1;height 0 1;height 1 4";
        DowrySteps x = new DowrySteps();
        due("not told without its last sign", Checks.tell(x, text), -4);
        due("count(0)", x.count(0), 0);
        due("place of the end", x.fault(1), text.length());
        due("tell it", Checks.tell(x, text + ";"), 7);
        due("path(0, 0)", x.path(0, 0), 2);
        due("path(0, 1)", x.path(0, 1), 0);
        due("path(0, 2)", x.path(0, 2), 8);
        due("path(1, 2)", x.path(1, 2), 3);
        due("path(1, 3)", x.path(1, 3), -2);
        due("path(1, -1)", x.path(1, -1), -2);
        due("path(2, 0)", x.path(2, 0), -2);
        due("path(-1, 0)", x.path(-1, 0), -2);
        due("count(6)", x.count(6), 7);
    }

    /** Promises 7 to 10. */
    private static void courtingAsItIs() {
        DowrySteps x = hill();
        due("hearts()", x.hearts(), 1);
        due("bride(0, 0)", x.bride(0, 0), 1);
        due("bride(0, 1)", x.bride(0, 1), 1);
        due("bride(0, 2)", x.bride(0, 2), 2);
        due("bride(0, 3)", x.bride(0, 3), 1);
        due("bride(1, 0)", x.bride(1, 0), 3);
        due("bride(1, 1)", x.bride(1, 1), 0);
        due("bride(1, 2)", x.bride(1, 2), 0);
        due("bride(1, 3)", x.bride(1, 3), NONE);
        due("bride(2, 0)", x.bride(2, 0), -2);
        due("bride(-1, 0)", x.bride(-1, 0), -2);
        due("bride(0, 4)", x.bride(0, 4), -2);
        due("suitor(0, 0)", x.suitor(0, 0), 2);
        due("suitor(0, 1)", x.suitor(0, 1), 40);
        due("suitor(0, 2)", x.suitor(0, 2), 3);
        due("suitor(0, 3)", x.suitor(0, 3), 0);
        due("suitor(0, 4)", x.suitor(0, 4), 1);
        due("suitor(1, 4)", x.suitor(1, 4), 0);
        due("suitor(2, 3)", x.suitor(2, 3), NONE);
        due("suitor(2, 4)", x.suitor(2, 4), 0);
        due("suitor(2, 5)", x.suitor(2, 5), -2);
        due("suitor(3, 0)", x.suitor(3, 0), -2);
        due("court(2, 0)", x.court(2, 0), -2);
        due("court(0, 2)", x.court(0, 2), -2);
        due("court(0, -2)", x.court(0, -2), -2);
        due("court(3, 0)", x.court(3, 0), -2);
        due("court(-1, 0)", x.court(-1, 0), -2);
        due("court(2, 1)", x.court(2, 1), NONE);
        due("court(0, 1)", x.court(0, 1), 0);
        due("bride(1, 3) of two of one skill", x.bride(1, 3), 0);
        due("suitor(2, 4)", x.suitor(2, 4), 1);
        due("hearts()", x.hearts(), 1);
        due("court(0, NONE)", x.court(0, NONE), 1);
        due("court(0, NONE) again", x.court(0, NONE), NONE);
        due("bride(1, 3)", x.bride(1, 3), 2);
        due("hearts()", x.hearts(), 0);
        due("count(8)", x.count(8), 6);
        DowrySteps later = ring();
        due("a later court strikes", later.suitor(3, 3), 1);
    }

    /** Promises 11 to 15, and 30. */
    private static void stepsAndLeaps() {
        DowrySteps x = hill();
        int[] steps = {0, 2, 2, 2, 1, 0};
        int[] leaps = {20, 7, 7, 7, 10, 20};
        for (int y = 0; y < 6; y++) {
            due("steps(1, " + y + ")", x.steps(1, y), steps[y]);
            due("leap(1, " + y + ")", x.leap(1, y), leaps[y]);
        }
        due("steps(1, 6)", x.steps(1, 6), -2);
        due("leap(4, 0)", x.leap(4, 0), -2);
        due("leap(2, 0)", x.leap(2, 0), 0);
        due("whose(1, 1, 0)", x.whose(1, 1, 0), 0);
        due("whose(1, 1, 1)", x.whose(1, 1, 1), 1);
        due("whose(1, 1, 2)", x.whose(1, 1, 2), NONE);
        due("whose(1, 1, -1)", x.whose(1, 1, -1), NONE);
        due("whose(1, 4, 0)", x.whose(1, 4, 0), 1);
        due("whose(1, 4, 1)", x.whose(1, 4, 1), NONE);
        due("whose(1, 6, 0)", x.whose(1, 6, 0), -2);
        due("rots(1)", x.rots(1), 5);
        due("rots(0)", x.rots(0), NONE);
        due("rots(4)", x.rots(4), -2);
        due("rots(-1)", x.rots(-1), -2);
        due("rots of one that lasts", ring().rots(6), NONE);
        due("lacks(1, 0, 5)", x.lacks(1, 0, 5), 3);
        due("lacks(1, 1, 5)", x.lacks(1, 1, 5), 1);
        due("lacks(1, 1, 6)", x.lacks(1, 1, 6), 1);
        due("lacks(1, 1, 7)", x.lacks(1, 1, 7), 0);
        due("lacks(1, 0, 1)", x.lacks(1, 0, 1), 19);
        due("lacks(1, 0, 99)", x.lacks(1, 0, 99), 0);
        due("lacks(1, 0, 0)", x.lacks(1, 0, 0), NONE);
        due("lacks(2, 0, 0)", x.lacks(2, 0, 0), 0);
        due("lacks(1, 0, 100)", x.lacks(1, 0, 100), -2);
        due("lacks(1, 0, -1)", x.lacks(1, 0, -1), -2);
        due("most(1, 1)", x.most(1, 1), 2);
        due("most(1, 0)", x.most(1, 0), 0);
        due("most(1, 4)", x.most(1, 4), 1);
        due("most(3, 2)", x.most(3, 2), 2);
        due("most(3, 3)", x.most(3, 3), 0);
        due("most(0, 1)", x.most(0, 1), 0);
        due("most(1, 6)", x.most(1, 6), -2);
    }

    /** Promises 16, 31 and 32. */
    private static void chances() {
        DowrySteps x = hill();
        due("safe(1, 1, 0)", x.safe(1, 1, 0), 8);
        due("safe(1, 1, 1)", x.safe(1, 1, 1), 25);
        due("safe(1, 2, 0)", x.safe(1, 2, 0), 3);
        due("safe(1, 2, 1)", x.safe(1, 2, 1), 5);
        due("safe(1, 3, 0)", x.safe(1, 3, 0), 0);
        due("safe(1, 3, 1)", x.safe(1, 3, 1), 1);
        due("safe(1, 0, 0)", x.safe(1, 0, 0), 1);
        due("safe(1, 0, 1)", x.safe(1, 0, 1), 1);
        due("safe(1, 0, 2)", x.safe(1, 0, 2), -2);
        due("safe(1, 0, -1)", x.safe(1, 0, -1), -2);
        due("safe(4, 0, 0)", x.safe(4, 0, 0), -2);
        due("worst(1, 1)", x.worst(1, 1), 0);
        due("worst(1, 3)", x.worst(1, 3), 0);
        due("worst(1, 4)", x.worst(1, 4), 1);
        due("worst(1, 0)", x.worst(1, 0), NONE);
        due("worst(1, 6)", x.worst(1, 6), -2);
        due("dry(1)", x.dry(1), 0);
        due("dry(3)", x.dry(3), 0);
        due("dry(4)", x.dry(4), -2);
        DowrySteps y = ring();
        due("worst(3, 0)", y.worst(3, 0), 3);
        due("dry(0)", y.dry(0), 2);
        due("safe(0, 2, 0)", y.safe(0, 2, 0), 97);
        due("dry(6), no step in the first year", y.dry(6), 0);
        DowrySteps seven = Checks.told("mountain places 2 years 1;path 0 to 1;bride path 0 in 0;"
            + "suitor skill 0 spite 98 for 0;suitor skill 0 spite 98 for 0;suitor skill 0 spite 98 for 0;"
            + "suitor skill 0 spite 98 for 0;suitor skill 0 spite 98 for 0;suitor skill 0 spite 98 for 0;"
            + "suitor skill 0 spite 98 for 0;rain 0 is 1;court 0 0;court 1 0;court 2 0;court 3 0;court 4 0;"
            + "court 5 0;court 6 0;");
        due("seven steps, above", seven.safe(0, 0, 0), 99);
        due("seven steps, below", seven.safe(0, 0, 1), 100000000000000L);
        due("worst of two alike", seven.worst(0, 0), 1);
    }

    /** Promises 17 to 19, 22 to 24. */
    private static void waysThere() {
        DowrySteps x = hill();
        int[] reach = {3, 15, 15, 15, 15, 3};
        for (int y = 0; y < 6; y++) {
            due("reach(0, " + y + ")", x.reach(0, y), reach[y]);
            due("reach(1, " + y + ")", x.reach(1, y), 12);
        }
        due("reach(2, 0)", x.reach(2, 0), -2);
        due("reach(0, 6)", x.reach(0, 6), -2);
        due("shortest(0, 3, 1)", x.shortest(0, 3, 1), 4);
        due("shortest(0, 0, 0)", x.shortest(0, 0, 0), 1);
        due("shortest(0, 3, 0)", x.shortest(0, 3, 0), NONE);
        due("shortest(0, 4, 0)", x.shortest(0, 4, 0), -2);
        for (int i = 0; i < 4; i++) {
            due("goes(0, 3, 1, " + i + ")", x.goes(0, 3, 1, i), i);
        }
        due("goes(0, 3, 1, 4)", x.goes(0, 3, 1, 4), NONE);
        due("goes(0, 3, 1, -1)", x.goes(0, 3, 1, -1), NONE);
        due("goes(0, 3, 0, 0)", x.goes(0, 3, 0, 0), NONE);
        due("goes(0, 0, 0, 0)", x.goes(0, 0, 0, 0), 0);
        due("goes(2, 0, 0, 0)", x.goes(2, 0, 0, 0), -2);
        due("ways(0, 3, 1)", x.ways(0, 3, 1), 1);
        due("ways(0, 3, 0)", x.ways(0, 3, 0), 0);
        due("ways(0, 0, 0)", x.ways(0, 0, 0), 1);
        due("ways(0, -1, 0)", x.ways(0, -1, 0), -2);
        due("when(0, 3, 0)", x.when(0, 3, 0), 1);
        due("when(0, 3, 1)", x.when(0, 3, 1), 4);
        due("when(0, 3, 2)", x.when(0, 3, 2), 4);
        due("when(1, 0, 0)", x.when(1, 0, 0), NONE);
        due("when(1, 0, 1)", x.when(1, 0, 1), NONE);
        due("when(1, 0, 2)", x.when(1, 0, 2), 0);
        due("when(1, 0, 3)", x.when(1, 0, 3), -2);
        due("when(2, 0, 0)", x.when(2, 0, 0), -2);
        due("need(0, 3, 0)", x.need(0, 3, 0), 20);
        due("need(3, 0, 1)", x.need(3, 0, 1), 10);
        due("need(2, 3, 0)", x.need(2, 3, 0), 0);
        due("need(1, 1, 0)", x.need(1, 1, 0), 0);
        due("need(0, 4, 0)", x.need(0, 4, 0), -2);
        due("need(4, 0, 0)", x.need(4, 0, 0), -2);
        due("need(0, 1, 6)", x.need(0, 1, 6), -2);
        due("need without a path", Checks.told("mountain places 2 years 1;").need(0, 1, 0), NONE);
        DowrySteps y = ring();
        due("ways(1, 3, 1)", y.ways(1, 3, 1), 3);
        due("ways(0, 3, 0)", y.ways(0, 3, 0), 2);
        due("goes(1, 3, 1, 1)", y.goes(1, 3, 1, 1), 4);
    }

    private static void dueRow(DowrySteps x, int walker, int to, int year, int... row) {
        for (int i = 0; i < row.length; i++) {
            due("place(" + walker + ", " + to + ", " + year + ", " + i + ")", x.place(walker, to, year, i), row[i]);
        }
        due("its end", x.place(walker, to, year, row.length), NONE);
    }

    /** Promises 20, 21 and 33. */
    private static void safestWays() {
        DowrySteps y = ring();
        // year 1: path 0 has one step (70 of 100), path 3 two (70 and 20), path 6 one (70)
        due("safest(1, 3, 1, 0)", y.safest(1, 3, 1, 0), 7);
        due("safest(1, 3, 1, 1)", y.safest(1, 3, 1, 1), 10);
        due("safest(1, 3, 1, 2)", y.safest(1, 3, 1, 2), 3);
        dueRow(y, 1, 3, 1, 0, 5, 3);
        // year 0: path 6 has no step yet, it is safe for who leaps 30
        due("safest(1, 3, 0, 0)", y.safest(1, 3, 0, 0), 1);
        due("safest(1, 3, 0, 1)", y.safest(1, 3, 0, 1), 1);
        due("safest(1, 3, 0, 2)", y.safest(1, 3, 0, 2), 4);
        dueRow(y, 1, 3, 0, 0, 1, 2, 3);
        due("shortest(1, 3, 0)", y.shortest(1, 3, 0), 3);
        due("climbs(1, 3, 0, 0)", y.climbs(1, 3, 0, 0), 40);
        due("climbs(1, 3, 0, 1)", y.climbs(1, 3, 0, 1), 0);
        due("safest(1, 0, 0, 2)", y.safest(1, 0, 0, 2), 1);
        due("safest(1, 0, 0, 1)", y.safest(1, 0, 0, 1), 1);
        due("safest(2, 1, 0, 0)", y.safest(2, 1, 0, 0), NONE);
        due("safest(2, 1, 0, 1)", y.safest(2, 1, 0, 1), NONE);
        due("safest(2, 1, 0, 2)", y.safest(2, 1, 0, 2), NONE);
        due("safest(2, 1, 0, 3)", y.safest(2, 1, 0, 3), -2);
        due("safest(2, 1, 0, -1)", y.safest(2, 1, 0, -1), -2);
        due("safest(3, 1, 0, 0)", y.safest(3, 1, 0, 0), -2);
        due("place(2, 1, 0, 0)", y.place(2, 1, 0, 0), NONE);
        due("place(1, 3, 0, -1)", y.place(1, 3, 0, -1), NONE);
        due("place(1, 6, 0, 0)", y.place(1, 6, 0, 0), -2);
        DowrySteps x = hill();
        due("climbs(0, 3, 1, 0)", x.climbs(0, 3, 1, 0), 30);
        due("climbs(0, 3, 1, 1)", x.climbs(0, 3, 1, 1), 0);
        due("climbs(0, 3, 0, 1)", x.climbs(0, 3, 0, 1), NONE);
        due("climbs(0, 3, 0, 2)", x.climbs(0, 3, 0, 2), -2);
        due("climbs(0, 3, 0, -1)", x.climbs(0, 3, 0, -1), -2);
        due("climbs(0, 4, 0, 0)", x.climbs(0, 4, 0, 0), -2);
        DowrySteps down = Checks.told("mountain places 3 years 1;height 0 9;height 2 4;path 1 to 0;path 1 to 2;walker leap 9 at 0;");
        due("climbs up", down.climbs(0, 2, 0, 0), 4);
        due("climbs down", down.climbs(0, 2, 0, 1), 9);
    }

    /** Promises 25 to 29. */
    private static void fewestHearts() {
        DowrySteps x = hill();
        due("fewest(0, 3, 1)", x.fewest(0, 3, 1), 0);
        int[] first = {NONE, 0, NONE};
        int[] second = {1, NONE, 1};
        for (int s = 0; s < 3; s++) {
            due("whom(0, 3, 1, " + s + ")", x.whom(0, 3, 1, s), first[s]);
            due("whom(0, 3, 0, " + s + ")", x.whom(0, 3, 0, s), second[s]);
            due("whom(0, 3, 5, " + s + ")", x.whom(0, 3, 5, s), NONE);
        }
        due("whom(0, 3, 1, 3)", x.whom(0, 3, 1, 3), -2);
        due("whom(0, 3, 1, -1)", x.whom(0, 3, 1, -1), -2);
        due("whom(0, 3, 6, 0)", x.whom(0, 3, 6, 0), -2);
        due("courtings(0, 3, 1)", x.courtings(0, 3, 1), 9);
        due("busy(0, 3, 1)", x.busy(0, 3, 1), 1);
        due("fewest(0, 3, 0)", x.fewest(0, 3, 0), 1);
        due("courtings(0, 3, 0)", x.courtings(0, 3, 0), 2);
        due("busy(0, 3, 0)", x.busy(0, 3, 0), 2);
        due("fewest(0, 3, 5)", x.fewest(0, 3, 5), NONE);
        due("courtings(0, 3, 5)", x.courtings(0, 3, 5), 0);
        due("busy(0, 3, 5)", x.busy(0, 3, 5), NONE);
        due("courtings(0, 0, 5)", x.courtings(0, 0, 5), 12);
        due("busy(0, 1, 0)", x.busy(0, 1, 0), 0);
        due("fewest(2, 0, 0)", x.fewest(2, 0, 0), -2);
        due("courtings(0, 4, 0)", x.courtings(0, 4, 0), -2);
        due("busy(0, 0, -1)", x.busy(0, 0, -1), -2);
        due("all(3, 1)", x.all(3, 1), 0);
        due("all(3, 0)", x.all(3, 0), 1);
        due("all(3, 5)", x.all(3, 5), NONE);
        due("all(0, 1)", x.all(0, 1), NONE);
        due("all(4, 1)", x.all(4, 1), -2);
        due("all(0, 6)", x.all(0, 6), -2);
        due("all of no walkers", Checks.told("mountain places 2 years 1;").all(1, 0), 0);
        due("hearts() as they were", x.hearts(), 1);
        due("steps(1, 1) as they were", x.steps(1, 1), 2);
    }

    /** Promises 35 to 37. */
    private static void moreOfPaths() {
        DowrySteps x = hill();
        due("parts(0, 10)", x.parts(0, 10), 2);
        due("parts(1, 10)", x.parts(1, 10), 1);
        due("parts(0, 0)", x.parts(0, 0), 3);
        due("parts(0, 99)", x.parts(0, 99), 1);
        due("parts(0, 100)", x.parts(0, 100), -2);
        due("parts(0, -1)", x.parts(0, -1), -2);
        due("parts(6, 0)", x.parts(6, 0), -2);
        due("cuts(0, 3, 1)", x.cuts(0, 3, 1), 7);
        due("cuts(0, 2, 1)", x.cuts(0, 2, 1), 3);
        due("cuts(0, 0, 1)", x.cuts(0, 0, 1), 0);
        due("cuts(0, 3, 0)", x.cuts(0, 3, 0), NONE);
        due("cuts(0, 3, 6)", x.cuts(0, 3, 6), -2);
        due("vain(0)", x.vain(0), 1);
        due("vain(1)", x.vain(1), 0);
        due("vain(2)", x.vain(2), NONE);
        due("vain(3)", x.vain(3), -2);
        due("vain(-1)", x.vain(-1), -2);
        due("cuts around the ring", ring().cuts(1, 3, 0), 0);
    }

    /** Promises 34, 38 and 39. */
    private static void moreOfWalkers() {
        DowrySteps x = hill();
        due("high(0, 0)", x.high(0, 0), 1);
        due("high(0, 1)", x.high(0, 1), 2);
        due("high(1, 0)", x.high(1, 0), 2);
        due("high(2, 0)", x.high(2, 0), -2);
        due("high(0, 6)", x.high(0, 6), -2);
        due("sold(0, 3, 0)", x.sold(0, 3, 0), 1);
        due("sold(0, 3, 1)", x.sold(0, 3, 1), 0);
        due("sold(1, 0, 0)", x.sold(1, 0, 0), NONE);
        due("sold(1, 4, 0)", x.sold(1, 4, 0), -2);
        due("more(0, 3, 0, 1)", x.more(0, 3, 0, 1), 1);
        due("more(0, 3, 1, 1)", x.more(0, 3, 1, 1), NONE);
        due("more(1, 0, 0, 9)", x.more(1, 0, 0, 9), NONE);
        due("more(0, 3, 0, 0)", x.more(0, 3, 0, 0), -2);
        due("more(0, 3, 0, 10)", x.more(0, 3, 0, 10), -2);
        due("more(2, 3, 0, 1)", x.more(2, 3, 0, 1), -2);
        DowrySteps far = Checks.told("mountain places 3 years 1;height 1 50;height 2 60;path 0 to 1;path 1 to 2;path 0 to 2;"
            + "walker leap 5 at 0;walker leap 6 at 0;");
        due("sold over two paths", far.sold(0, 2, 0), 10);
        due("sold over one path", far.sold(1, 2, 0), 9);
        due("more, one path alone", far.more(1, 2, 0, 9), 2);
        due("more, one too few", far.more(1, 2, 0, 8), NONE);
    }

    /** Promises 40 to 43. */
    private static void measured() {
        DowrySteps x = hill();
        due("agree of nothing", x.agree(0), -6);
        due("sure of nothing", x.sure(0, 0), -6);
        due("kindly of nothing", x.kindly(0), -6);
        due("odd of nothing", x.odd(0), -6);
        due("sure of nothing, no such suitor", x.sure(0, 3), -2);
        due("agree(4)", x.agree(4), -2);
        due("odd(-1)", x.odd(-1), -2);
        Checks.putRow(x, 0, 0, 1, 1, 7);
        due("agree(0)", x.agree(0), 2);
        due("sure(0, 0)", x.sure(0, 0), 0);
        due("sure(0, 1)", x.sure(0, 1), 0);
        due("sure(0, 2)", x.sure(0, 2), NONE);
        due("sure(0, 3)", x.sure(0, 3), -2);
        due("kindly(0)", x.kindly(0), 1);
        due("odd(0)", x.odd(0), NONE);
        Checks.putRow(x, 1, 3, 3, 1, 30, 1, 1, 10);
        due("agree(1)", x.agree(1), 2);
        due("sure(1, 0)", x.sure(1, 0), NONE);
        due("sure(1, 2)", x.sure(1, 2), 9);
        due("kindly(1)", x.kindly(1), 0);
        due("odd(1)", x.odd(1), 1);
        Checks.putRow(x, 1, 3, 3, 1, 30, 1, 1, 11);
        due("agree by none", x.agree(1), 0);
        due("sure by none", x.sure(1, 2), NONE);
        due("kindly by none", x.kindly(1), NONE);
        Checks.putRow(x, 2, 1, 0, 0, 10, 1);
        due("agree, not three each", x.agree(2), -2);
        due("odd, not three each", x.odd(2), -2);
        Checks.putRow(x, 2, 1, 4, 0, 10);
        due("agree, no path", x.agree(2), -2);
        Checks.putRow(x, 2, 3, 0, 6, 10);
        due("kindly, no year", x.kindly(2), -2);
        Checks.putRow(x, 2, 3, 1L << 32, 0, 10);
        due("sure, no path by far", x.sure(2, 0), -2);
        Checks.putRow(x, 2, 3, 0, 0, (1L << 32) + 10);
        due("agree, no such leap", x.agree(2), 0);
        due("odd, no such leap", x.odd(2), 0);
        x.row(2, 2, 0);
        due("agree of none at all", x.agree(2), 12);
        due("kindly of none at all", x.kindly(2), 0);
        due("odd of none at all", x.odd(2), NONE);
        DowrySteps without = new DowrySteps();
        Checks.putRow(without, 0, 0, 0, 0, 0);
        due("agree without a mountain", without.agree(0), -2);
        due("agree of nothing without a mountain", without.agree(1), -2);
        due("odd without a mountain", without.odd(0), -2);
    }

    /** Promises 44 to 47. */
    private static void hopesAndPeace() {
        DowrySteps x = hill();
        due("hopes(0)", x.hopes(0), 1);
        due("hopes(1)", x.hopes(1), NONE);
        due("hopes(2)", x.hopes(2), NONE);
        due("hopes(3)", x.hopes(3), -2);
        due("peace()", x.peace(), 0);
        due("peaces(0)", x.peaces(0), NONE);
        due("peaces(1)", x.peaces(1), 1);
        due("peaces(40)", x.peaces(40), 1);
        due("peaces(41)", x.peaces(41), -2);
        due("peaces(-1)", x.peaces(-1), -2);
        due("then(0, 0)", x.then(0, 0), 0);
        due("then(0, 1)", x.then(0, 1), 1);
        due("then(1, 40)", x.then(1, 40), 0);
        due("then(2, 5)", x.then(2, 5), NONE);
        due("then(3, 0)", x.then(3, 0), -2);
        due("then(0, 41)", x.then(0, 41), -2);
        due("suitor(0, 3) as it was", x.suitor(0, 3), 0);
        x.court(2, 1);
        // she is courted by 2, whose skill is that of 0: she takes the least
        due("hopes(0) of two of one skill", x.hopes(0), 1);
        due("peaces(1), 2 is refused then and hopes for none", x.peaces(1), 1);
        x.court(0, 1);
        due("hopes(2), refused, for her alone", x.hopes(2), NONE);
        due("peace() with a heart", x.peace(), 1);
        due("peaces(0) in peace", x.peaces(0), 0);
        DowrySteps chain = Checks.told("mountain places 2 years 1;path 0 to 1;bride path 0 in 0;bride path 0 in 0;bride path 0 in 0;"
            + "suitor skill 9 spite 0 for 0;suitor skill 8 spite 0 for 0 1;suitor skill 7 spite 0 for 1 2;suitor skill 6 spite 0 for 2;"
            + "court 0 0;court 1 0;court 2 1;court 3 2;");
        due("peaces(1) of a chain", chain.peaces(1), NONE);
        due("peaces(2) of a chain", chain.peaces(2), 2);
        due("then(1, 1)", chain.then(1, 1), 1);
        due("then(2, 1)", chain.then(2, 1), 1);
        due("then(2, 2)", chain.then(2, 2), 2);
        due("then(3, 9)", chain.then(3, 9), 2);
    }

    /** Promises 48 and 49; the draws of seeds: 0: 0 68, 1: 38 58, 7: 64 6, 11: 81 4, 22: 94 41. */
    private static void walks() {
        DowrySteps x = hill();
        // path 1 in year 1: step 0 falls below 60, step 1 below 20
        due("walk(0, 0, 3, 1)", x.walk(0, 0, 3, 1), 1);
        due("walk(7, 0, 3, 1)", x.walk(7, 0, 3, 1), 1);
        due("walk(11, 0, 3, 1)", x.walk(11, 0, 3, 1), 1);
        due("walk(22, 0, 3, 1)", x.walk(22, 0, 3, 1), 3);
        due("walk(0, 0, 0, 1)", x.walk(0, 0, 0, 1), 0);
        due("walk(0, 0, 3, 0)", x.walk(0, 0, 3, 0), NONE);
        due("walk(-1, 0, 3, 1)", x.walk(-1, 0, 3, 1), -2);
        due("walk(2000000001, 0, 3, 1)", x.walk(2000000001, 0, 3, 1), -2);
        due("walk(2000000000, 0, 3, 1)", x.walk(2000000000, 0, 3, 1), 1);
        due("walk(0, 2, 3, 1)", x.walk(0, 2, 3, 1), -2);
        // of seeds 9 to 28 these pass both: 9 13 16 18 20 22
        due("walks(9, 20, 0, 3, 1)", x.walks(9, 20, 0, 3, 1), 6);
        due("walks(9, 1, 0, 3, 1)", x.walks(9, 1, 0, 3, 1), 1);
        due("walks(10, 2, 0, 3, 1)", x.walks(10, 2, 0, 3, 1), 0);
        due("walks(0, 0, 0, 3, 1)", x.walks(0, 0, 0, 3, 1), -2);
        due("walks(0, 21, 0, 3, 1)", x.walks(0, 21, 0, 3, 1), -2);
        due("walks(-1, 1, 0, 3, 1)", x.walks(-1, 1, 0, 3, 1), -2);
        due("walks(2000000001, 1, 0, 3, 1)", x.walks(2000000001, 1, 0, 3, 1), -2);
        due("walks(0, 1, 0, 3, 0)", x.walks(0, 1, 0, 3, 0), NONE);
        due("walks(0, 1, 0, 3, 6)", x.walks(0, 1, 0, 3, 6), -2);
        String text = "mountain places 2 years 1;path 0 to 1;bride path 0 in 0;suitor skill 0 spite 0 for 0;rain 0 is 38;"
            + "walker leap 99 at 0;walker leap 99 at 1;court 0 0;";
        DowrySteps flat = Checks.told(text);
        due("a draw as high as its fall is no miss", flat.walk(1, 0, 1, 0), 1);
        due("missed on the flat: whence he came", flat.walk(0, 0, 1, 0), 0);
        due("missed on the flat: whence he came, back", flat.walk(0, 1, 0, 0), 1);
        // 2000000000 draws 4, 2000000001 draws 42
        due("walks(2000000000, 2, ..)", flat.walks(2000000000, 2, 0, 1, 0), 1);
        DowrySteps down = Checks.told(text + "height 0 5;");
        due("missed on the way down: he is there", down.walk(0, 0, 1, 0), 1);
        due("walks count who lies there", down.walks(0, 5, 0, 1, 0), 5);
    }

    /** Promise 50. */
    private static void counts() {
        DowrySteps x = hill();
        int[] counts = {4, 6, 4, 2, 3, 2, 19, 0, 3, 0};
        for (int what = 0; what < counts.length; what++) {
            due("count(" + what + ")", x.count(what), counts[what]);
        }
        due("count(10)", x.count(10), NONE);
        due("count(-1)", x.count(-1), NONE);
        x.feed(1, 2, 3, 4, 5);
        due("count(7)", x.count(7), 20);
        x.row(3, 0, 0);
        x.row(1, 0, 60);
        x.row(1, 1, 2);
        due("count(9)", x.count(9), 2);
        x.row(0, 3, 1);
        x.row(2, 3, 1);
        due("count(9)", x.count(9), 4);
        x.court(2, 1);
        x.court(0, NONE);
        due("count(8)", x.count(8), 6);
    }

    /** Promises 51 and 52. */
    private static void images() {
        DowrySteps x = hill();
        due("image(3)", x.image(3), -2);
        due("image(-1)", x.image(-1), -2);
        due("back(3)", x.back(3), -2);
        due("back(-1)", x.back(-1), -2);
        due("back(2) of nothing", x.back(2), -6);
        due("image(2)", x.image(2), 0);
        x.court(0, NONE);
        Checks.putRow(x, 0, 0, 1, 1, 7);
        due("image(0)", x.image(0), 0);
        Checks.tell(x, "mountain places 2 years 1;rain 0 is 9;");
        x.feed(1, 2, 3, 4, 5);
        due("back(2)", x.back(2), 0);
        due("hearts() of image 2", x.hearts(), 1);
        due("count(6) of image 2", x.count(6), 19);
        due("count(7), the tape is no part of it", x.count(7), 20);
        due("agree(0), the slots are no part of it", x.agree(0), 2);
        x.court(1, NONE);
        due("back(2) again", x.back(2), 0);
        due("suitor(1, 3): what came behind the image is gone", x.suitor(1, 3), 0);
        due("back(0)", x.back(0), 0);
        due("hearts() of image 0", x.hearts(), 0);
        due("suitor(0, 3) of image 0", x.suitor(0, 3), NONE);
        due("safe(1, 3, 1), the rain is of image 0", x.safe(1, 3, 1), 4);
        due("back(1) of nothing", x.back(1), -6);
        DowrySteps without = new DowrySteps();
        due("image(1) without a mountain", without.image(1), 0);
        Checks.tell(without, "mountain places 2 years 1;");
        due("back(1) to none", without.back(1), 0);
        due("hearts() without", without.hearts(), -2);
    }

    /** Promises 53 to 55: what a row holds is asked by odd and agree. */
    private static void slots() {
        DowrySteps x = hill();
        due("row(4, 0, 0)", x.row(4, 0, 0), -2);
        due("row(-1, 0, 0)", x.row(-1, 0, 0), -2);
        due("row(0, 4, 0)", x.row(0, 4, 0), -2);
        due("row(0, -1, 0)", x.row(0, -1, 0), -2);
        due("row(0, 0, 61)", x.row(0, 0, 61), -2);
        due("row(0, 4, -1)", x.row(0, 4, -1), -2);
        due("row(0, 0, -1)", x.row(0, 0, -1), -3);
        due("write to nothing", x.write(0, 0, 0), -6);
        due("write(4, 0, 0)", x.write(4, 0, 0), -2);
        due("row(0, 0, 3)", x.row(0, 0, 3), 0);
        due("agree of zeros: path 0, year 0, leap 0", x.agree(0), 0);
        due("write(0, 3, 0)", x.write(0, 3, 0), -7);
        due("write(0, -1, 0)", x.write(0, -1, 0), -7);
        due("write(0, 0, 257)", x.write(0, 0, 257), 0);
        due("write(0, 1, 1 << 40 | 1)", x.write(0, 1, (1L << 40) + 1), 0);
        due("write(0, 2, -249)", x.write(0, 2, -249), 0);
        due("odd(0), all cut to a byte", x.odd(0), NONE);
        due("row(0, 0, -1)", x.row(0, 0, -1), -3);
        due("odd(0), the slot stays", x.odd(0), NONE);
        due("row(0, 0, 60)", x.row(0, 0, 60), 0);
        due("odd(0), all 0", x.odd(0), 0);
        widths(x);
        pastes(x);
    }

    private static void widths(DowrySteps x) {
        long[] above = {1L << 8, 1L << 16, 1L << 32};
        for (int width = 0; width < 4; width++) {
            for (int k = 0; k < 3; k++) {
                Checks.putRow(x, 1, width, 0, 0, above[k] + 10);
                due("width " + width + " cuts " + above[k], x.odd(1), k >= width ? NONE : 0);
            }
        }
        for (int k = 0; k < 2; k++) {
            Checks.putRow(x, 1, k + 1, 0, 0, above[k] + 10);
            due("width " + (k + 1) + " keeps " + above[k], x.odd(1), 0);
        }
    }

    private static void pastes(DowrySteps x) {
        Checks.putRow(x, 0, 0, 0, 0, 10, 1, 1, 7, 3, 3, 30);
        due("paste to nothing", x.paste(0, 0, 3, 0, 1), -6);
        due("paste from nothing", x.paste(3, 0, 0, 0, 1), -6);
        due("paste(4, ..)", x.paste(4, 0, 0, 0, 1), -2);
        due("paste(0, 0, -1, ..)", x.paste(0, 0, -1, 0, 1), -2);
        due("paste to no slot from nothing", x.paste(3, 0, 4, 0, 1), -2);
        x.row(2, 1, 9);
        due("paste to another width", x.paste(0, 0, 2, 0, 1), -8);
        due("paste to another width beyond", x.paste(0, 0, 2, 0, 99), -8);
        x.row(2, 0, 6);
        due("paste", x.paste(0, 3, 2, 0, 6), 0);
        due("odd of the pasted", x.odd(2), NONE);
        due("agree of the pasted", x.agree(2), 2);
        due("paste beyond the source", x.paste(0, 4, 2, 0, 6), -7);
        due("paste beyond the target", x.paste(0, 0, 2, 1, 6), -7);
        due("paste from below", x.paste(0, -1, 2, 0, 1), -7);
        due("paste to below", x.paste(0, 0, 2, -1, 1), -7);
        due("paste of fewer than none", x.paste(0, 0, 2, 0, -1), -7);
        due("paste of very many", x.paste(0, 1, 2, 1, 2147483647), -7);
        due("paste from very far", x.paste(0, 2147483647, 2, 0, 1), -7);
        due("paste none from the end", x.paste(0, 9, 2, 6, 0), 0);
        due("paste none from behind the end", x.paste(0, 10, 2, 6, 0), -7);
        due("paste none to behind the end", x.paste(0, 9, 2, 7, 0), -7);
        due("odd, nothing happened", x.odd(2), NONE);
        // its own, one upon the other, both ways: 1 1 7 3 3 30 comes to stand at 0 and, from there, at 3
        due("paste down its own", x.paste(0, 3, 0, 0, 6), 0);
        due("odd(0)", x.odd(0), NONE);
        x.write(0, 6, 0);
        due("paste up its own", x.paste(0, 0, 0, 3, 6), 0);
        due("odd(0)", x.odd(0), NONE);
        due("agree(0)", x.agree(0), 2);
        x.write(0, 8, 29);
        due("odd(0), the last", x.odd(0), 2);
    }

    /** Every function with arguments below, at and above what there is, with and without a mountain: no call fails. */
    private static void wrongArguments() {
        int[] edges = {-2147483648, -2, -1, 0, 1, 2, 3, 7, 8, 9, 29, 30, 40, 60, 61, 100, 2147483647};
        DowrySteps[] objects = {new DowrySteps(), hill(), ring()};
        for (DowrySteps x : objects) {
            boolean told = x.count(0) > 0;
            for (int a : edges) {
                for (int b : edges) {
                    for (int c : edges) {
                        askThree(x, told, a, b, c);
                    }
                }
            }
        }
    }

    private static void askThree(DowrySteps x, boolean told, int a, int b, int c) {
        long[] answers = {
            x.path(a, b), x.bride(a, b), x.suitor(a, b), x.steps(a, b), x.whose(a, b, c), x.leap(a, b), x.rots(a),
            x.lacks(a, b, c), x.safe(a, b, c), x.reach(a, b), x.shortest(a, b, c), x.goes(a, b, c, a),
            x.safest(a, b, c, a), x.place(a, b, c, b), x.ways(a, b, c), x.when(a, b, c), x.need(a, b, c),
            x.fewest(a, b, c), x.whom(a, b, c, b), x.all(a, b), x.courtings(a, b, c), x.busy(a, b, c), x.most(a, b),
            x.worst(a, b), x.dry(a), x.climbs(a, b, c, a), x.high(a, b), x.parts(a, b), x.cuts(a, b, c), x.vain(a),
            x.sold(a, b, c), x.more(a, b, c, a), x.agree(a), x.sure(a, b), x.kindly(a), x.odd(a), x.hopes(a),
            x.peaces(a), x.then(a, b), x.walk(a, b, c, a), x.walks(a, b, c, a, b)
        };
        for (int i = 0; i < answers.length; i++) {
            if (!told || a < -1) {
                due("function " + i + " of " + a + ", " + b + ", " + c, answers[i], -2);
            }
        }
        due("image", x.image(a), a >= 0 && a < 3 ? 0 : -2);
        due("end", x.end(a), a == 0 ? 0 : NONE);
    }
}
