import java.util.List;

/** Promises 1 to 10 and 50 to 52 by sentence: the tape, the mountain and its faults, courting, counts, images. */
public final class TellingEdgesTest {
    private static final int NONE = -1;
    private static final int LEAST = -2147483648;
    private static final int MOST = 2147483647;
    private static final String TWO = "mountain places 2 years 1;";
    private static final String HILL = "mountain places 3 years 4;height 1 10;height 2 30;path 0 to 1;path 2 to 1;bride path 1 in 1;bride path 0 in 0;"
        + "bride path 1 in 3;suitor skill 1 spite 40 for 0 1;suitor skill 2 spite 30 for 0;suitor skill 2 spite 100 for 2 1;rain 1 is 20;"
        + "walker leap 10 at 0;court 0 0;court 1 0;";

    private static void due(String call, long got, long want) {
        Checks.due(call, got, want);
    }

    /** A told mountain with a courting that was not told, two rows and an image. */
    private static DowrySteps busyOne() {
        DowrySteps x = Checks.told(HILL);
        x.court(2, 2);
        Checks.putRow(x, 1, 0, 0, 0, 10, 1, 2, 7);
        Checks.putRow(x, 3, 3, 1, 0, 20);
        x.image(1);
        return x;
    }

    public static void main(String[] args) {
        Sentences.ofWhole("An object is used for at most 512 calls after it has been made", TellingEdgesTest::fiveHundredAndTwelve);
        Sentences.ofPromise(1, "No MOUNTAIN.", TellingEdgesTest::noMountain);
        tape();
        mountains();
        asToldAndCourted();
        countsAndImages();
        Sentences.everyPromise(1, 2, 3, 4, 5, 6, 7, 8, 9, 10, 50, 51, 52);
        Checks.finish("edges of telling");
    }

    private static void tape() {
        Sentences.ofPromise(2, "Twenty bytes come behind the TAPE, four of each number, the highest first: how many it has", TellingEdgesTest::twentyBytes);
        Sentences.ofPromise(2, "NONE, and none come, if it would have more than 1,400", TellingEdgesTest::moreThanTheTape);
        Sentences.ofPromise(3, "The TAPE has its first n bytes alone: n", TellingEdgesTest::firstBytesAlone);
        Sentences.ofPromise(3, "its first n bytes alone", TellingEdgesTest::cutInTwo);
        Sentences.ofPromise(3, "NONE, and nothing happens, if it has not so many, or n is below 0", TellingEdgesTest::notSoMany);
    }

    private static void mountains() {
        Sentences.ofPromise(4, "The TAPE (empty then) is the MOUNTAIN (in place of another)", TellingEdgesTest::inPlaceOfAnother);
        Sentences.ofPromise(4, "(in place of another)", TellingEdgesTest::inPlaceOfMany);
        Sentences.ofPromise(4, "how many LINES (0: there is none then)", TellingEdgesTest::howManyLines);
        Sentences.ofPromise(4, "-4: a FAULT (the TAPE is empty, all else stays)", TellingEdgesTest::allElseStays);
        Sentences.ofPromise(5, "Of the latest mountain(), what 0: its FAULT, 0 without, 1: its place (NONE without)", TellingEdgesTest::latestFault);
        Sentences.ofPromise(5, "NONE for another what", TellingEdgesTest::anotherWhatOfFaults);
        Sentences.ofPromise(5, "and ahead of any (what 1)", TellingEdgesTest::aheadOfAny);
    }

    private static void asToldAndCourted() {
        Sentences.ofPromise(6, "what 0, 1: its PLACES as told, 2: its DROP", TellingEdgesTest::pathsAsTold);
        Sentences.ofPromise(6, "-2: there are none such", TellingEdgesTest::noSuchPaths);
        Sentences.ofPromise(7, "A SUITOR COURTS a BRIDE (NONE: nobody) from now on: whom he did (NONE)", TellingEdgesTest::courtsFromNowOn);
        Sentences.ofPromise(7, "-2: there are none such, he is not for her", TellingEdgesTest::refusedCourts);
        Sentences.ofPromise(8, "2: how many COURT her, 3: whom she TAKES (NONE)", TellingEdgesTest::bridesOfNoneAndAll);
        Sentences.ofPromise(8, "-2: there are none such", TellingEdgesTest::noSuchBrides);
        Sentences.ofPromise(9, "2: for whom he is, as bits, 3: whom he COURTS (NONE), 4: 1 if he is REFUSED, else 0", TellingEdgesTest::suitorsOfNoneAndAll);
        Sentences.ofPromise(9, "-2: there are none such", TellingEdgesTest::noSuchSuitors);
        Sentences.ofPromise(10, "HEARTS. -2: there is no MOUNTAIN", TellingEdgesTest::heartsWithout);
    }

    private static void countsAndImages() {
        Sentences.ofPromise(50, "NONE for others (0 without a MOUNTAIN)", TellingEdgesTest::countsOfOthers);
        Sentences.ofPromise(50, "7 bytes of the TAPE, 8 SUITORS who COURT, as bits, 9 SLOTS that have a row", TellingEdgesTest::countsEmptyAndFull);
        Sentences.ofPromise(51, "IMAGE k (0 .. 2) keeps the MOUNTAIN and the COURTING: 0. -2: no such k", TellingEdgesTest::imagesKeep);
        Sentences.ofPromise(52, "These are as IMAGE k has them: 0", TellingEdgesTest::imagesBack);
        Sentences.ofPromise(52, "-2: no such k; -6: it has nothing", TellingEdgesTest::backOfNothing);
    }

    /** The last call answers as the first does, whatever stood between them. */
    private static void fiveHundredAndTwelve() {
        DowrySteps x = new DowrySteps();
        for (int call = 1; call <= 512; call += 4) {
            due("feed, call " + call, x.feed(0x20202020, 0x20202020, 0x20202020, 0x20202020, 0x20202020), 20);
            due("mountain(), call " + (call + 1), x.mountain(), 0);
            due("row, call " + (call + 2), x.row(call & 3, 0, 60), 0);
            due("image, call " + (call + 3), x.image(call % 3), 0);
        }
    }

    private static void noMountain() {
        DowrySteps x = new DowrySteps();
        for (int what = 0; what <= 9; what++) {
            due("count(" + what + ")", x.count(what), 0);
        }
        long[] none = {x.path(0, 0), x.court(0, NONE), x.court(0, 0), x.bride(0, 2), x.suitor(0, 3), x.hearts(), x.steps(0, 0), x.whose(0, 0, 0),
            x.leap(0, 0), x.rots(0), x.lacks(0, 0, 0), x.safe(0, 0, 0), x.reach(0, 0), x.shortest(0, 0, 0), x.goes(0, 0, 0, 0),
            x.safest(0, 0, 0, 0), x.place(0, 0, 0, 0), x.ways(0, 0, 0), x.when(0, 0, 2), x.need(0, 0, 0), x.fewest(0, 0, 0), x.whom(0, 0, 0, 0),
            x.all(0, 0), x.courtings(0, 0, 0), x.busy(0, 0, 0), x.most(0, 0), x.worst(0, 0), x.dry(0), x.climbs(0, 0, 0, 0), x.high(0, 0),
            x.parts(0, 0), x.cuts(0, 0, 0), x.vain(0), x.sold(0, 0, 0), x.more(0, 0, 0, 1), x.agree(0), x.sure(0, 0), x.kindly(0), x.odd(0),
            x.hopes(0), x.peace(), x.peaces(0), x.then(0, 0), x.walk(0, 0, 0, 0), x.walks(0, 1, 0, 0, 0)};
        for (int i = 0; i < none.length; i++) {
            due("function " + i, none[i], -2);
        }
        due("end(0) of the empty tape", x.end(0), 0);
        due("end(1) of the empty tape", x.end(1), NONE);
        for (int k = 0; k < 4; k++) {
            due("write to slot " + k, x.write(k, 0, 0), -6);
            due("back(" + k + ")", x.back(k), k < 3 ? -6 : -2);
        }
    }

    private static void twentyBytes() {
        for (int at = 0; at < 20; at++) {
            for (int sign : new int[] {0, 127, 128, 255, 'z'}) {
                int[] five = {0x20202020, 0x20202020, 0x20202020, 0x20202020, 0x20202020};
                int shift = 24 - 8 * (at % 4);
                five[at / 4] = five[at / 4] & ~(255 << shift) | sign << shift;
                DowrySteps x = new DowrySteps();
                due("feed", x.feed(five[0], five[1], five[2], five[3], five[4]), 20);
                due("mountain() of sign " + sign + " at " + at, x.mountain(), -4);
                due("fault(1) of it", x.fault(1), at);
            }
        }
        DowrySteps x = new DowrySteps();
        due("the first feed", x.feed(LEAST, MOST, -1, 0, 1), 20);
        due("the second feed", x.feed(LEAST, MOST, -1, 0, 1), 40);
        due("the third feed behind 21", x.end(21) == 21 ? x.feed(0, 0, 0, 0, 0) : 0, 41);
    }

    /** An object with a text of n bytes on its tape, blanks at its end. */
    private static DowrySteps tapeOf(int n) {
        StringBuilder text = new StringBuilder(TWO);
        while (text.length() < n) {
            text.append(' ');
        }
        DowrySteps x = new DowrySteps();
        Checks.feedText(x, Checks.bytesOf(text.toString()));
        due("bytes on the tape", x.count(7), n);
        return x;
    }

    private static void moreThanTheTape() {
        for (int n : new int[] {1360, 1379, 1380}) {
            due("feed behind " + n, tapeOf(n).feed(0x20202020, 0x20202020, 0x20202020, 0x20202020, 0x20202020), n + 20);
        }
        for (int n : new int[] {1381, 1382, 1390, 1399}) {
            DowrySteps x = tapeOf(n);
            State.dueRefused(x, "feed behind " + n, () -> x.feed(0x2e2e2e2e, -1, -1, -1, -1), NONE);
            due("end(" + (n + 1) + ")", x.end(n + 1), NONE);
            due("mountain(): none came", x.mountain(), 1);
        }
        DowrySteps full = tapeOf(1380);
        due("feed up to 1,400", full.feed(0x20202020, 0x20202020, 0x20202020, 0x20202020, 0x20202020), 1400);
        State.dueRefused(full, "feed behind 1,400", () -> full.feed(0x2e2e2e2e, -1, -1, -1, -1), NONE);
        due("count(7)", full.count(7), 1400);
        due("end(1400)", full.end(1400), 1400);
        due("mountain() of 1,400 bytes", full.mountain(), 1);
        due("feed behind mountain()", full.feed(0, 0, 0, 0, 0), 20);
    }

    private static void firstBytesAlone() {
        String text = TWO + "path 0 to 1;";
        for (int n = 0; n <= text.length(); n++) {
            DowrySteps x = new DowrySteps();
            Checks.feedText(x, Checks.bytesOf(text));
            due("end(" + n + ")", x.end(n), n);
            due("count(7)", x.count(7), n);
            due("mountain() of " + n + " bytes", x.mountain(), n == 0 ? 0 : n == 26 ? 1 : n == 38 ? 2 : -4);
            due("fault(1) of it", x.fault(1), n == 0 || n == 26 || n == 38 ? NONE : placeOfCut(n));
        }
        DowrySteps x = new DowrySteps();
        Checks.feedText(x, Checks.bytesOf(TWO + "....."));
        x.end(26);
        Checks.feedText(x, Checks.bytesOf("path 1 to 0;"));
        due("what came behind the end stands there", x.mountain(), 2);
        due("path(0, 0)", x.path(0, 0), 1);
    }

    /** What was cut off is no part of a token, though it would make it longer. */
    private static void cutInTwo() {
        DowrySteps x = new DowrySteps();
        Checks.feedText(x, Checks.bytesOf("mountain places 2 years 30;"));
        x.end(25);
        due("mountain() of years 3", x.mountain(), -4);
        due("fault(1), the end's", x.fault(1), 25);
        Checks.feedText(x, Checks.bytesOf("mountain places 2 years 29;"));
        x.end(25);
        Checks.feedText(x, Checks.bytesOf(";"));
        due("mountain() of years 2;", x.mountain(), 1);
        due("count(1)", x.count(1), 2);
        Checks.feedText(x, Checks.bytesOf(TWO + "walker leap 0 at 0;"));
        x.end(29);
        due("mountain() of wal", x.mountain(), -4);
        due("fault(1), the word's", x.fault(1), 26);
        Checks.feedText(x, Checks.bytesOf(TWO + "rain 0 is 100;"));
        x.end(38);
        Checks.feedText(x, Checks.bytesOf("1;path 0 to 1;"));
        due("mountain() of rain 0 is 101", x.mountain(), -4);
        due("fault(1), the number's", x.fault(1), 36);
    }

    /** The place of the fault in the first n bytes of the text: a word that is cut in two, or else the end. */
    private static int placeOfCut(int n) {
        int[] from = {0, 9, 18, 26, 33};
        int[] behind = {8, 15, 23, 30, 35};
        for (int i = 0; i < from.length; i++) {
            if (n > from[i] && n < behind[i]) {
                return from[i];
            }
        }
        return n;
    }

    private static void notSoMany() {
        DowrySteps x = new DowrySteps();
        for (int n : new int[] {1, -1, LEAST, MOST}) {
            due("end(" + n + ") of none", x.end(n), NONE);
        }
        Checks.feedText(x, Checks.bytesOf(TWO));
        for (int n : new int[] {27, 28, 1400, MOST, -1, -2, LEAST}) {
            State.dueRefused(x, "end(" + n + ")", () -> x.end(n), NONE);
            due("count(7)", x.count(7), 26);
        }
        due("end(26)", x.end(26), 26);
        due("mountain(): nothing happened", x.mountain(), 1);
        due("end(1) behind mountain()", x.end(1), NONE);
    }

    private static void inPlaceOfAnother() {
        DowrySteps x = busyOne();
        due("another one", Checks.tell(x, "mountain places 3 years 4;path 0 to 1;path 1 to 2;bride path 0 in 0;suitor skill 3 spite 0 for 0;walker leap 0 at 1;"), 6);
        due("count(7)", x.count(7), 0);
        due("path(1, 0) as told now", x.path(1, 0), 1);
        due("path(1, 2) without heights", x.path(1, 2), 0);
        due("suitor(0, 3) of nobody", x.suitor(0, 3), NONE);
        due("bride 1", x.bride(1, 0), -2);
        due("suitor 1", x.suitor(1, 0), -2);
        x.court(0, 0);
        due("no rain", x.safe(0, 1, 1), 1);
        due("reach", x.reach(0, 0), 7);
        due("the row stays", x.count(9), 2);
        due("the image stays", x.back(1), 0);
        due("suitor(2, 3) of the image", x.suitor(2, 3), 2);
        due("mountain() of an empty tape", x.mountain(), 0);
        due("hearts()", x.hearts(), -2);
    }

    /** A great and a small one by turns: of the great one nothing is there, however often it was told. */
    private static void inPlaceOfMany() {
        String great = "mountain places 8 years 30;height 0 9;height 1 8;path 0 to 1;path 1 to 2;bride path 0 in 0;bride path 1 in 0;"
            + "suitor skill 9 spite 9 for 0;suitor skill 9 spite 9 for 1 0;rain 0 is 50;rain 1 is 60;walker leap 9 at 1;walker leap 9 at 2;court 0 0;court 1 1;";
        int[] counts = {3, 2, 1, 1, 1, 1, 5, 0, 0, 0};
        DowrySteps x = new DowrySteps();
        for (int round = 0; round < 4; round++) {
            due("mountain() of the great one", Checks.tell(x, great), 15);
            due("a great one with a fault", Checks.tell(x, great + "."), -4);
            due("mountain() of the small one", Checks.tell(x, "mountain places 3 years 2;path 0 to 1;bride path 0 in 0;suitor skill 1 spite 0 for 0;"
                + "walker leap 0 at 0;"), 5);
            for (int what = 0; what < counts.length; what++) {
                due("count(" + what + ")", x.count(what), counts[what]);
            }
            due("path(0, 2)", x.path(0, 2), 0);
            due("suitor(0, 3)", x.suitor(0, 3), NONE);
            x.court(0, 0);
            due("safe(0, 0, 1)", x.safe(0, 0, 1), 1);
            due("safe(0, 1, 1)", x.safe(0, 1, 1), 1);
        }
    }

    private static void howManyLines() {
        DowrySteps x = new DowrySteps();
        due("of none", Checks.tell(x, ""), 0);
        due("of one", Checks.tell(x, TWO), 1);
        due("of blanks", Checks.tell(x, "\n "), 0);
        due("hearts() of blanks", x.hearts(), -2);
        for (int round = 0; round < 3; round++) {
            due("of two", Checks.tell(x, TWO + "path 0 to 1;"), 2);
            due("of one again", Checks.tell(x, TWO), 1);
            due("of none again", Checks.tell(x, ""), 0);
            due("hearts() of none again", x.hearts(), -2);
            due("count(0) of none again", x.count(0), 0);
            due("count(1) of none again", x.count(1), 0);
            due("parts(0, 0) of none again", x.parts(0, 0), -2);
        }
        // 26 bytes and 152 lines of nine each: 1,394
        StringBuilder many = new StringBuilder(TWO);
        for (int i = 0; i < 152; i++) {
            many.append("rain0is0;");
        }
        due("of 1,394 bytes", Checks.tell(x, many.toString()), 153);
        due("of 1,400 bytes, blanks at the end", Checks.tell(x, many + "      "), 153);
        String full = many.substring(0, many.length() - 9) + "rain 00 is 0001;";
        due("bytes", full.length(), 1401);
        full = full.replace("0001", "001");
        due("of 1,400 bytes, a line at the end", Checks.tell(x, full), 153);
        due("count(6)", x.count(6), 153);
        Checks.faultyAt(full.substring(0, 1399), 1, 1399);
        Checks.faultyAt(full.substring(0, 1399) + " ", 1, 1400);
        Checks.faultyAt(full.substring(0, 1399) + ".", 1, 1399);
        Checks.faultyAt(full.substring(0, 1399) + "0", 1, 1400);
        Checks.faultyAt(full.substring(0, 1397) + "100", 1, 1400);
        Checks.faultyAt(full.substring(0, 1397) + "999", 2, 1396);
        Checks.faultyAt(full.substring(0, 1399) + "z", 1, 1399);
        Checks.faultyAt(many + "rain 0", 1, 1400);
        Checks.faultyAt(many + "height", 1, 1400);
        Checks.faultyAt(many + "rain;;", 1, 1398);
    }

    private static void allElseStays() {
        String[] spoilt = {".", "mountain places 9 years 1;", TWO + "path 0 to 0;", TWO + "walker leap 0 at 0", ";", "mountain places 8 years 30;height 0 9;path 0 to 1;"
            + "bride path 0 in 0;suitor skill 0 spite 0 for 0;rain 0 is 99;walker leap 9 at 9;"};
        DowrySteps x = busyOne();
        for (String text : spoilt) {
            List<Long> before = State.of(x);
            due("mountain() of " + text, Checks.tell(x, text), -4);
            due("count(7)", x.count(7), 0);
            due("end(1)", x.end(1), NONE);
            due("whether all stays", before.equals(State.of(x)) ? 1 : 0, 1);
        }
        DowrySteps none = new DowrySteps();
        due("a fault without a mountain", Checks.tell(none, TWO + "height 2 0;"), -4);
        due("hearts() stays -2", none.hearts(), -2);
        due("count(0) stays 0", none.count(0), 0);
        due("image stays", x.back(1), 0);
        due("suitor(2, 3) of the image", x.suitor(2, 3), 2);
    }

    private static void latestFault() {
        DowrySteps x = new DowrySteps();
        String[] texts = {TWO, "mountain places 1 years 1;", "mountain mountain", "", "mountain places 2 years 31;", TWO + "walker leap 0 at 0;walker leap 0 at 0;"
            + "walker leap 0 at 0;walker leap 0 at 0;walker", TWO};
        int[] faults = {0, 2, 1, 0, 2, 3, 0};
        int[] places = {NONE, 16, 9, NONE, 24, 102, NONE};
        for (int i = 0; i < texts.length; i++) {
            Checks.tell(x, texts[i]);
            due("fault(0) of " + texts[i], x.fault(0), faults[i]);
            due("fault(1) of " + texts[i], x.fault(1), places[i]);
        }
        Checks.tell(x, "mountain places 3 years 0;");
        x.image(0);
        x.feed(0, 0, 0, 0, 0);
        x.end(0);
        x.back(0);
        due("fault(0), till another mountain()", x.fault(0), 2);
        due("fault(1), till another mountain()", x.fault(1), 24);
        Checks.tell(x, " ;");
        due("fault(1) of a later one", x.fault(1), 1);
        Checks.tell(x, ";");
        due("fault(1) at 0", x.fault(1), 0);
    }

    private static void anotherWhatOfFaults() {
        DowrySteps x = new DowrySteps();
        for (int round = 0; round < 3; round++) {
            for (int what : new int[] {-1, 2, 3, LEAST, MOST}) {
                due("fault(" + what + ") in round " + round, x.fault(what), NONE);
            }
            Checks.tell(x, round == 0 ? TWO : "mountain places 2 years 31;");
        }
    }

    private static void aheadOfAny() {
        DowrySteps x = new DowrySteps();
        due("fault(1)", x.fault(1), NONE);
        due("fault(0)", x.fault(0), 0);
        x.feed(0, 0, 0, 0, 0);
        due("fault(1) behind feed", x.fault(1), NONE);
        due("fault(0) behind feed", x.fault(0), 0);
    }

    private static void pathsAsTold() {
        DowrySteps x = Checks.told(HILL);
        int[][] due = {{0, 1, 10}, {2, 1, 20}};
        for (int p = 0; p < 2; p++) {
            for (int what = 0; what < 3; what++) {
                due("path(" + p + ", " + what + ")", x.path(p, what), due[p][what]);
            }
        }
    }

    private static void noSuchPaths() {
        DowrySteps x = Checks.told(HILL);
        for (int wrong : new int[] {-1, -2, 3, 4, LEAST, MOST}) {
            due("path(0, " + wrong + ")", x.path(0, wrong), -2);
            due("path(" + wrong + ", 0)", x.path(wrong, 0), -2);
        }
        due("path(2, 0), one above the last", x.path(2, 0), -2);
        due("a path of none", Checks.told(TWO).path(0, 0), -2);
    }

    private static void courtsFromNowOn() {
        DowrySteps x = Checks.told(HILL);
        due("court(2, 1)", x.court(2, 1), NONE);
        due("court(2, 1) again", x.court(2, 1), 1);
        due("court(2, 2)", x.court(2, 2), 1);
        due("court(2, NONE)", x.court(2, NONE), 2);
        due("court(2, NONE) again", x.court(2, NONE), NONE);
        due("suitor(2, 3)", x.suitor(2, 3), NONE);
        due("court(0, 1)", x.court(0, 1), 0);
        due("suitor(0, 3)", x.suitor(0, 3), 1);
        due("steps(0, 0)", x.steps(0, 0), 1);
        due("suitor(1, 3), who stays", x.suitor(1, 3), 0);
    }

    private static void refusedCourts() {
        DowrySteps x = Checks.told(HILL);
        int[][] wrong = {{-1, 0}, {3, 0}, {-1, NONE}, {3, NONE}, {LEAST, 0}, {MOST, NONE}, {0, 2}, {1, 1}, {2, 0}, {0, 3}, {1, -2}, {1, LEAST}, {1, MOST}, {0, 32}};
        for (int[] w : wrong) {
            State.dueRefused(x, "court(" + w[0] + ", " + w[1] + ")", () -> x.court(w[0], w[1]), -2);
        }
    }

    private static void bridesOfNoneAndAll() {
        StringBuilder text = new StringBuilder("mountain places 2 years 30;path 0 to 1;bride path 0 in 29;bride path 0 in 0;");
        for (int s = 0; s < 7; s++) {
            text.append("suitor skill 3 spite 0 for 0;");
        }
        DowrySteps x = Checks.told(text.toString());
        for (int n = 0; n <= 7; n++) {
            due("bride(0, 2) of " + n, x.bride(0, 2), n);
            due("bride(0, 3) of " + n, x.bride(0, 3), n == 0 ? NONE : 7 - n);
            due("bride(1, 2), another", x.bride(1, 2), 0);
            due("bride(1, 3), another", x.bride(1, 3), NONE);
            x.court(6 - n, 0);
        }
        due("bride(0, 0)", x.bride(0, 0), 0);
        due("bride(0, 1)", x.bride(0, 1), 29);
        due("bride(1, 1)", x.bride(1, 1), 0);
    }

    private static void noSuchBrides() {
        DowrySteps x = Checks.told(HILL);
        for (int wrong : new int[] {-1, -2, 4, 5, LEAST, MOST}) {
            due("bride(0, " + wrong + ")", x.bride(0, wrong), -2);
            due("bride(" + wrong + ", 0)", x.bride(wrong, 0), -2);
        }
        due("bride(3, 0), one above the last", x.bride(3, 0), -2);
        due("a bride of none", Checks.told(TWO + "path 0 to 1;").bride(0, 2), -2);
    }

    private static void suitorsOfNoneAndAll() {
        DowrySteps x = Checks.told(HILL);
        int[][] due = {{1, 40, 3, 0, 1}, {2, 30, 1, 0, 0}, {2, 100, 6, NONE, 0}};
        for (int s = 0; s < 3; s++) {
            for (int what = 0; what < 5; what++) {
                due("suitor(" + s + ", " + what + ")", x.suitor(s, what), due[s][what]);
            }
        }
        x.court(1, NONE);
        due("he is refused no more", x.suitor(0, 4), 0);
        due("who courts nobody is not refused", x.suitor(1, 4), 0);
    }

    private static void noSuchSuitors() {
        DowrySteps x = Checks.told(HILL);
        for (int wrong : new int[] {-1, -2, 5, 6, LEAST, MOST}) {
            due("suitor(0, " + wrong + ")", x.suitor(0, wrong), -2);
            due("suitor(" + wrong + ", 0)", x.suitor(wrong, 0), -2);
        }
        due("suitor(3, 0), one above the last", x.suitor(3, 0), -2);
        due("a suitor of none", Checks.told(TWO).suitor(0, 0), -2);
    }

    private static void heartsWithout() {
        DowrySteps x = new DowrySteps();
        due("hearts() of a new object", x.hearts(), -2);
        due("hearts() behind a fault", Checks.tell(x, ";") == -4 ? x.hearts() : 0, -2);
        due("hearts() of no suitors", Checks.told(TWO).hearts(), 0);
        due("hearts() of one", Checks.told(HILL).hearts(), 1);
        due("hearts() behind an empty mountain()", Checks.tell(x, TWO) + Checks.tell(x, "") == 1 ? x.hearts() : 0, -2);
    }

    private static void countsOfOthers() {
        DowrySteps x = Checks.told(HILL);
        for (int what : new int[] {-1, -2, 10, 11, LEAST, MOST}) {
            due("count(" + what + ")", x.count(what), NONE);
        }
        DowrySteps none = new DowrySteps();
        for (int what = 0; what <= 6; what++) {
            due("count(" + what + ") without", none.count(what), 0);
        }
        due("count(8) without", none.count(8), 0);
        Checks.tell(x, " ");
        for (int what = 0; what <= 6; what++) {
            due("count(" + what + ") without it any more", x.count(what), 0);
        }
        due("count(8) without it any more", x.count(8), 0);
    }

    private static void countsEmptyAndFull() {
        DowrySteps x = Checks.told(HILL);
        int[] counts = {3, 4, 2, 3, 3, 1, 15, 0, 3, 0};
        for (int what = 0; what < counts.length; what++) {
            due("count(" + what + ")", x.count(what), counts[what]);
        }
        x.feed(0, 0, 0, 0, 0);
        due("count(7)", x.count(7), 20);
        x.end(3);
        due("count(7)", x.count(7), 3);
        x.court(2, 2);
        due("count(8), all", x.count(8), 7);
        x.court(1, NONE);
        due("count(8), not suitor 1", x.count(8), 5);
        for (int slot = 3; slot >= 0; slot--) {
            x.row(slot, 0, slot == 2 ? 0 : 60);
            due("count(9)", x.count(9), 4 - slot);
        }
        x.row(2, 3, 1);
        x.row(1, 0, 61);
        x.row(1, 0, -1);
        due("count(9)", x.count(9), 4);
    }

    private static void imagesKeep() {
        DowrySteps x = busyOne();
        for (int k : new int[] {-1, 3, -2, 4, LEAST, MOST}) {
            State.dueRefused(x, "image(" + k + ")", () -> x.image(k), -2);
        }
        for (int k = 0; k < 3; k++) {
            x.court(0, k - 1);
            due("image(" + k + ")", x.image(k), 0);
        }
        x.court(0, NONE);
        for (int k = 2; k >= 0; k--) {
            due("back(" + k + ")", x.back(k), 0);
            due("suitor(0, 3) of image " + k, x.suitor(0, 3), k - 1);
        }
        x.court(1, NONE);
        due("image(1) again", x.image(1), 0);
        x.back(2);
        due("suitor(1, 3) of image 2", x.suitor(1, 3), 0);
        x.back(1);
        due("suitor(1, 3) of the later image 1", x.suitor(1, 3), NONE);
        due("suitor(0, 3) of the later image 1", x.suitor(0, 3), NONE);
    }

    private static void imagesBack() {
        DowrySteps x = busyOne();
        List<Long> before = State.of(x);
        Checks.tell(x, "mountain places 8 years 30;height 0 9;path 6 to 7;path 5 to 7;path 4 to 7;bride path 1 in 29;suitor skill 30 spite 99 for 0;rain 1 is 99;"
            + "walker leap 99 at 7;walker leap 98 at 6;court 0 0;");
        due("back(1)", x.back(1), 0);
        due("whether all is as it was", before.equals(State.of(x)) ? 1 : 0, 1);
        x.court(0, NONE);
        x.court(1, NONE);
        due("back(1) again", x.back(1), 0);
        due("whether all is as it was, again", before.equals(State.of(x)) ? 1 : 0, 1);
        x.feed(1, 2, 3, 4, 5);
        x.row(0, 0, 1);
        x.back(1);
        due("count(7), of the tape", x.count(7), 20);
        due("count(9), of the slots", x.count(9), 3);
        DowrySteps none = new DowrySteps();
        due("image(0) without a mountain", none.image(0), 0);
        Checks.tell(none, HILL);
        due("back(0) to none", none.back(0), 0);
        due("hearts() then", none.hearts(), -2);
        due("count(6) then", none.count(6), 0);
    }

    private static void backOfNothing() {
        DowrySteps x = busyOne();
        for (int k : new int[] {-1, 3, -2, 4, LEAST, MOST}) {
            State.dueRefused(x, "back(" + k + ")", () -> x.back(k), -2);
        }
        State.dueRefused(x, "back(0)", () -> x.back(0), -6);
        State.dueRefused(x, "back(2)", () -> x.back(2), -6);
        due("back(1)", x.back(1), 0);
    }
}
