import java.util.List;

/** Promises 40 to 43 and 53 to 55 by sentence: the slots, and courtings that explain what was measured. */
public final class SlotEdgesTest {
    private static final int NONE = -1;
    private static final int LEAST = -2147483648;
    private static final int MOST = 2147483647;
    private static final int[] NO_SLOTS = {-1, 4, -2, 5, LEAST, MOST};

    /** Ten paths, the drop of each beside it; path 6, 7 high, is a leap of 4 by one step in year 1, of 3 by two. */
    private static final String HILL = "mountain places 8 years 3;height 1 1;height 2 2;height 3 3;height 4 4;height 5 5;height 6 6;height 7 7;"
        + "path 0 to 1;path 0 to 2;path 0 to 3;path 0 to 4;path 0 to 5;path 0 to 6;path 0 to 7;path 7 to 6;path 7 to 5;path 7 to 1;"
        + "bride path 6 in 1;bride path 0 in 0;suitor skill 0 spite 0 for 0;suitor skill 1 spite 0 for 0 1;court 0 0;";
    private static final int[] LEAPS = {1, 2, 3, 4, 5, 6, 7, 1, 2, 6};

    private interface OfSlot {
        long ask(DowrySteps x, int slot);
    }

    private static void due(String call, long got, long want) {
        Checks.due(call, got, want);
    }

    public static void main(String[] args) {
        measured();
        rows();
        pastes();
        Sentences.everyPromise(40, 41, 42, 43, 53, 54, 55);
        Checks.finish("edges of slots");
    }

    private static void measured() {
        Sentences.ofPromise(40, "MEASURED (V): how many COURTINGS AGREE", SlotEdgesTest::agreeNoneAndAll);
        Sentences.ofPromise(40, "MEASURED (V): how many COURTINGS AGREE", SlotEdgesTest::agreeByEachOfTwenty);
        Sentences.ofPromise(40, "a number is no PATH, no YEAR (asked last), not three each", () -> notMeasured((x, slot) -> x.agree(slot)));
        Sentences.ofPromise(40, "-2: there is no such SLOT, no MOUNTAIN", () -> noSlotNoMountain((x, slot) -> x.agree(slot)));
        Sentences.ofPromise(40, "-6: it has nothing", () -> nothingThere((x, slot) -> x.agree(slot)));
        Sentences.ofPromise(41, "a BRIDE, 9: nobody; NONE: not the same by all, there are none", SlotEdgesTest::sureOfAll);
        Sentences.ofPromise(41, "-2, -6 likewise", () -> likewise((x, slot) -> x.sure(slot, 1)));
        Sentences.ofPromise(41, "no such SUITOR", SlotEdgesTest::sureNoSuchSuitor);
        Sentences.ofPromise(42, "The fewest HEARTS by one that AGREES. NONE: there is none", SlotEdgesTest::kindlyOrNone);
        Sentences.ofPromise(42, "-2, -6 likewise", () -> likewise((x, slot) -> x.kindly(slot)));
        Sentences.ofPromise(43, "The first of MEASURED (from 0) that is not so by the COURTING as it is; NONE: all are", SlotEdgesTest::oddFromZero);
        Sentences.ofPromise(43, "-2, -6 likewise", () -> likewise((x, slot) -> x.odd(slot)));
    }

    private static void rows() {
        Sentences.ofTerm(1, "SLOTS 0 .. 3 have rows of numbers of 1, 2, 4 or 8 bytes (WIDTH 0 .. 3), at most 60, or nothing", SlotEdgesTest::slotsAndWidths);
        Sentences.ofPromise(53, "A SLOT (0 .. 3) has a row of n numbers of a WIDTH, all 0 (in place of another one): 0", SlotEdgesTest::rowsOfZeros);
        Sentences.ofPromise(53, "-2: there is no such SLOT or WIDTH (0 .. 3), or n is above 60", SlotEdgesTest::noSuchRows);
        Sentences.ofPromise(53, "-3, and the SLOT stays: n is below 0", SlotEdgesTest::rowsBelowNothing);
        Sentences.ofPromise(54, "Number i of the SLOT's row is v, cut to its WIDTH: 0", SlotEdgesTest::cutToWidth);
        Sentences.ofPromise(54, "-2: there is no such SLOT; -6: it has nothing; -7: there is no such number", SlotEdgesTest::refusedWrites);
    }

    private static void pastes() {
        Sentences.ofPromise(55, "are put to another one's (or its own), from one on, as they were: 0", SlotEdgesTest::pasteAsTheyWere);
        Sentences.ofPromise(55, "-2: there is no such SLOT; -6: one has nothing; -8: they are not of one WIDTH", SlotEdgesTest::refusedPastes);
        Sentences.ofPromise(55, "-7, and nothing happens: some are beyond their rows", SlotEdgesTest::pasteBeyond);
        Sentences.ofPromise(55, "(also where n is 0: a place above how many it has)", SlotEdgesTest::pasteNone);
        Sentences.ofPromise(55, "or a place or n is below 0", SlotEdgesTest::pasteBelow);
    }

    private static DowrySteps hill() {
        return Checks.told(HILL);
    }

    /** Ten paths with their leaps in year 2, when there is no step on them by the courting as it is: of a slot three times n numbers. */
    private static void putLeaps(DowrySteps x, int slot, int width, int n) {
        x.row(slot, width, 3 * n);
        for (int i = 0; i < n; i++) {
            x.write(slot, 3 * i, i % 10);
            x.write(slot, 3 * i + 1, 2);
            x.write(slot, 3 * i + 2, LEAPS[i % 10]);
        }
    }

    private static void agreeNoneAndAll() {
        DowrySteps x = hill();
        Checks.putRow(x, 0, 0, 6, 1, 7);
        due("no step: suitor 0 nobody, 1 nobody or bride 1", x.agree(0), 2);
        Checks.putRow(x, 0, 0, 6, 1, 4);
        due("one step", x.agree(0), 3);
        Checks.putRow(x, 0, 0, 6, 1, 3);
        due("two steps", x.agree(0), 1);
        Checks.putRow(x, 0, 0, 6, 1, 2);
        due("three steps", x.agree(0), 0);
        Checks.putRow(x, 0, 0, 6, 1, 0);
        due("a leap of 0 up 7", x.agree(0), 0);
        x.row(0, 0, 0);
        due("nothing was measured", x.agree(0), 6);
        Checks.putRow(x, 0, 0, 1, 0, 2);
        due("where no step can be", x.agree(0), 6);
        putLeaps(x, 0, 0, 20);
        due("twenty measures", x.agree(0), 4);
        x.write(0, 59, 8);
        due("twenty measures, the last of them wrong", x.agree(0), 0);
        x.write(0, 59, 6);
        x.write(0, 2, 2);
        due("twenty measures, the first of them wrong", x.agree(0), 0);
        DowrySteps none = Checks.told("mountain places 2 years 1;path 0 to 1;");
        Checks.putRow(none, 0, 0, 0, 0, 0);
        due("without suitors there is one", none.agree(0), 1);
    }

    /** Twenty measures, each in its turn the one that a step makes so; and seven steps by each of twenty. */
    private static void agreeByEachOfTwenty() {
        DowrySteps x = hill();
        for (int i = 0; i < 20; i++) {
            x.row(0, 0, 60);
            for (int k = 0; k < 20; k++) {
                x.write(0, 3 * k, k == i ? 6 : 1);
                x.write(0, 3 * k + 1, 1);
                x.write(0, 3 * k + 2, k == i ? 4 : 2);
            }
            due("one step by measure " + i, x.agree(0), 3);
            x.write(0, 3 * i + 2, 3);
            due("two steps by measure " + i, x.agree(0), 1);
            x.write(0, 3 * i + 2, 7);
            due("no step by measure " + i, x.agree(0), 2);
        }
        StringBuilder text = new StringBuilder("mountain places 2 years 1;height 1 99;path 0 to 1;bride path 0 in 0;");
        for (int s = 0; s < 7; s++) {
            text.append("suitor skill 0 spite 0 for 0;");
        }
        DowrySteps seven = Checks.told(text.toString());
        seven.row(0, 0, 60);
        int[] leaps = {99, 50, 33, 25, 20, 17, 15, 13};
        int[] courtings = {1, 7, 21, 35, 35, 21, 7, 1};
        for (int steps = 0; steps <= 7; steps++) {
            for (int k = 0; k < 20; k++) {
                seven.write(0, 3 * k + 2, leaps[steps]);
            }
            due(steps + " steps by each of twenty", seven.agree(0), courtings[steps]);
            due("the fewest hearts", seven.kindly(0), Math.max(steps - 1, 0));
            seven.write(0, 59, leaps[(steps + 1) % 8]);
            due(steps + " steps by each but the last", seven.agree(0), 0);
        }
    }

    private static void notMeasured(OfSlot asking) {
        DowrySteps x = hill();
        long[][] wrong = {{10, 0, 0}, {11, 0, 0}, {-1, 0, 0}, {0, 3, 1}, {0, 4, 1}, {0, -1, 1}, {0, 0, 1, 10, 0, 0}, {0, 0, 1, 0, 3, 1},
            {0}, {0, 0}, {0, 0, 1, 0}, {0, 0, 1, 0, 0}, {10, 0}, {0, 0, 1, -1}};
        for (int width = 0; width < 4; width++) {
            for (long[] row : wrong) {
                Checks.putRow(x, 2, width, row);
                due("row " + java.util.Arrays.toString(row), asking.ask(x, 2), -2);
            }
            Checks.putRow(x, 2, width, 9, 2, 6, 0, 0, 1);
            due("path 9, year 2 and path 0, year 0", asking.ask(x, 2) == -2 ? 1 : 0, 0);
        }
        putLeaps(x, 2, 0, 20);
        due("sixty numbers", asking.ask(x, 2) == -2 ? 1 : 0, 0);
        x.write(2, 57, 10);
        due("sixty numbers, no path at the last measure", asking.ask(x, 2), -2);
        x.write(2, 57, 9);
        x.write(2, 58, 3);
        due("sixty numbers, no year at the last measure", asking.ask(x, 2), -2);
        x.row(2, 0, 59);
        due("59 numbers", asking.ask(x, 2), -2);
        x.row(2, 0, 58);
        due("58 numbers", asking.ask(x, 2), -2);
        // of 8 bytes, what is a path or a year when it is cut is none
        Checks.putRow(x, 2, 3, 4294967296L, 0, 1);
        due("path 0 and 2 to the 32nd", asking.ask(x, 2), -2);
        Checks.putRow(x, 2, 3, 0, 4294967296L, 1);
        due("year 0 and 2 to the 32nd", asking.ask(x, 2), -2);
        Checks.putRow(x, 2, 3, Long.MIN_VALUE, Long.MAX_VALUE, 1);
        due("the least and the greatest", asking.ask(x, 2), -2);
        Checks.tell(x, "mountain places 2 years 1;");
        Checks.putRow(x, 2, 0, 0, 0, 0);
        due("a mountain without paths", asking.ask(x, 2), -2);
    }

    private static void noSlotNoMountain(OfSlot asking) {
        DowrySteps x = hill();
        DowrySteps none = new DowrySteps();
        for (int slot : NO_SLOTS) {
            due("slot " + slot, asking.ask(x, slot), -2);
            due("slot " + slot + " without a mountain", asking.ask(none, slot), -2);
        }
        due("slot 0 of nothing without a mountain", asking.ask(none, 0), -2);
        Checks.putRow(none, 0, 0, 0, 0, 0);
        due("slot 0 without a mountain", asking.ask(none, 0), -2);
    }

    private static void nothingThere(OfSlot asking) {
        DowrySteps x = hill();
        for (int slot = 0; slot < 4; slot++) {
            due("slot " + slot, asking.ask(x, slot), -6);
        }
        x.row(3, 0, 0);
        due("a row of no numbers is one", asking.ask(x, 3) == -6 ? 1 : 0, 0);
        due("slot 2 still", asking.ask(x, 2), -6);
        x.row(2, 0, 61);
        due("slot 2 behind a refused row", asking.ask(x, 2), -6);
        x.row(2, 0, -1);
        due("slot 2 behind another one", asking.ask(x, 2), -6);
    }

    private static void likewise(OfSlot asking) {
        notMeasured(asking);
        noSlotNoMountain(asking);
        nothingThere(asking);
    }

    private static void sureOfAll() {
        DowrySteps x = hill();
        Checks.putRow(x, 0, 0, 6, 1, 3);
        due("by the one courting, suitor 0", x.sure(0, 0), 0);
        due("by the one courting, suitor 1", x.sure(0, 1), 0);
        Checks.putRow(x, 0, 0, 6, 1, 7);
        due("nobody by both", x.sure(0, 0), 9);
        due("nobody or bride 1", x.sure(0, 1), NONE);
        Checks.putRow(x, 0, 0, 6, 2, 4);
        due("bride 0 in year 2, suitor 1", x.sure(0, 1), 0);
        due("bride 0 in year 2, suitor 0 by either", x.sure(0, 0), NONE);
        Checks.putRow(x, 0, 0, 0, 0, 1, 6, 1, 7);
        due("a step where the leap is 1 all the same", x.sure(0, 1), NONE);
        Checks.putRow(x, 0, 0, 6, 1, 2);
        due("there are none, suitor 0", x.sure(0, 0), NONE);
        due("there are none, suitor 1", x.sure(0, 1), NONE);
        DowrySteps four = Checks.told("mountain places 5 years 1;height 0 9;path 0 to 1;path 0 to 2;path 0 to 3;path 0 to 4;bride path 0 in 0;bride path 1 in 0;"
            + "bride path 2 in 0;bride path 3 in 0;suitor skill 0 spite 0 for 3 2 1 0;suitor skill 0 spite 0 for 3;");
        for (int b = 0; b < 3; b++) {
            Checks.putRow(four, 0, 0, b, 0, 5);
            due("bride " + b + " by both", four.sure(0, 0), b);
            due("who is not for her, by either", four.sure(0, 1), NONE);
        }
        Checks.putRow(four, 0, 0, 3, 0, 3);
        due("bride 3, the last", four.sure(0, 0), 3);
        due("bride 3, the last suitor", four.sure(0, 1), 3);
    }

    private static void sureNoSuchSuitor() {
        DowrySteps x = hill();
        Checks.putRow(x, 0, 0, 6, 1, 7);
        for (int suitor : new int[] {-1, 2, -2, 3, 7, 9, LEAST, MOST}) {
            due("sure(0, " + suitor + ")", x.sure(0, suitor), -2);
        }
        due("sure(0, 0)", x.sure(0, 0), 9);
        DowrySteps none = Checks.told("mountain places 2 years 1;path 0 to 1;");
        Checks.putRow(none, 0, 0, 0, 0, 0);
        due("without suitors", none.sure(0, 0), -2);
    }

    private static void kindlyOrNone() {
        DowrySteps x = hill();
        Checks.putRow(x, 0, 0, 6, 1, 3);
        due("two at one bride", x.kindly(0), 1);
        Checks.putRow(x, 0, 0, 6, 1, 4);
        due("one alone", x.kindly(0), 0);
        Checks.putRow(x, 0, 0, 6, 1, 2);
        due("there is none", x.kindly(0), NONE);
        x.row(0, 0, 0);
        due("nothing was measured", x.kindly(0), 0);
        StringBuilder text = new StringBuilder("mountain places 2 years 1;height 1 99;path 0 to 1;bride path 0 in 0;");
        for (int s = 0; s < 7; s++) {
            text.append("suitor skill 0 spite 0 for 0;");
        }
        DowrySteps seven = Checks.told(text.toString());
        Checks.putRow(seven, 0, 0, 0, 0, 13);
        due("seven at one bride", seven.kindly(0), 6);
        due("by one courting", seven.agree(0), 1);
    }

    private static void oddFromZero() {
        DowrySteps x = hill();
        putLeaps(x, 1, 2, 20);
        due("all are", x.odd(1), NONE);
        for (int i = 19; i >= 0; i--) {
            x.write(1, 3 * i + 2, 50 + i);
            due("the first is " + i, x.odd(1), i);
        }
        x.row(1, 0, 0);
        due("of none all are", x.odd(1), NONE);
        Checks.putRow(x, 1, 0, 6, 1, 4);
        due("by the courting as it is", x.odd(1), NONE);
        x.court(0, NONE);
        due("by the courting as it is now", x.odd(1), 0);
    }

    private static void slotsAndWidths() {
        DowrySteps x = hill();
        for (int slot = 0; slot < 4; slot++) {
            due("write to nothing", x.write(slot, 0, 0), -6);
            for (int width = 0; width < 4; width++) {
                due("row(" + slot + ", " + width + ", 60)", x.row(slot, width, 60), 0);
                due("write of the last", x.write(slot, 59, 1), 0);
                due("write behind the last", x.write(slot, 60, 1), -7);
                due("row(" + slot + ", " + width + ", 0)", x.row(slot, width, 0), 0);
                due("write to none", x.write(slot, 0, 1), -7);
            }
        }
        due("row(4, 0, 1)", x.row(4, 0, 1), -2);
    }

    private static void rowsOfZeros() {
        DowrySteps x = hill();
        for (int slot = 0; slot < 4; slot++) {
            for (int width = 0; width < 4; width++) {
                putLeaps(x, slot, width, 20);
                due("row(" + slot + ", " + width + ", 60)", x.row(slot, width, 60), 0);
                due("all 0: path 0, year 0, leap 0", x.odd(slot), 0);
                due("all 0: agree", x.agree(slot), 0);
                for (int i = 0; i < 20; i++) {
                    x.write(slot, 3 * i + 2, 1);
                }
                due("all 0 but the leaps", x.odd(slot), NONE);
                x.row(slot, width, 3);
                due("shorter by far", x.write(slot, 3, 0), -7);
                x.write(slot, 2, 1);
                x.row(slot, width, 6);
                due("longer again, all 0 again", x.odd(slot), 0);
            }
        }
    }

    private static void noSuchRows() {
        DowrySteps x = hill();
        putLeaps(x, 0, 1, 20);
        for (int slot : NO_SLOTS) {
            State.dueRefused(x, "row(" + slot + ", 0, 3)", () -> x.row(slot, 0, 3), -2);
            State.dueRefused(x, "row(" + slot + ", 0, -1)", () -> x.row(slot, 0, -1), -2);
        }
        for (int width : new int[] {-1, 4, -2, 5, LEAST, MOST}) {
            State.dueRefused(x, "row(0, " + width + ", 3)", () -> x.row(0, width, 3), -2);
            State.dueRefused(x, "row(0, " + width + ", -1)", () -> x.row(0, width, -1), -2);
        }
        for (int n : new int[] {61, 62, 100, MOST}) {
            State.dueRefused(x, "row(0, 0, " + n + ")", () -> x.row(0, 0, n), -2);
            State.dueRefused(x, "row(3, 0, " + n + ") of nothing", () -> x.row(3, 0, n), -2);
        }
        due("write: the row stays as wide", x.write(0, 2, 256 + 1), 0);
        due("odd", x.odd(0), 0);
        due("row(0, 0, 60)", x.row(0, 0, 60), 0);
    }

    private static void rowsBelowNothing() {
        DowrySteps x = hill();
        putLeaps(x, 0, 1, 20);
        for (int n : new int[] {-1, -2, -60, LEAST}) {
            State.dueRefused(x, "row(0, 0, " + n + ")", () -> x.row(0, 0, n), -3);
            State.dueRefused(x, "row(0, 3, " + n + ")", () -> x.row(0, 3, n), -3);
            State.dueRefused(x, "row(1, 0, " + n + ") of nothing", () -> x.row(1, 0, n), -3);
        }
        due("write of the last: the slot stays", x.write(0, 59, 6), 0);
        due("odd: the slot stays", x.odd(0), NONE);
        x.write(0, 2, 256 + 1);
        due("odd: its width stays", x.odd(0), 0);
        due("row(0, 0, 0)", x.row(0, 0, 0), 0);
    }

    private static void cutToWidth() {
        DowrySteps x = hill();
        long[] above = {1L << 8, 1L << 16, 1L << 32};
        for (int width = 0; width < 4; width++) {
            for (int i = 0; i < 3; i++) {
                for (int sign = -1; sign <= 1; sign += 2) {
                    putLeaps(x, 0, width, 20);
                    x.write(0, 59, 6 + sign * above[i]);
                    due("width " + width + " of 6 and " + sign * above[i], x.odd(0), i >= width ? NONE : 19);
                    x.write(0, 59, 6);
                    x.write(0, 57, 9 + sign * above[i]);
                    due("width " + width + " of path 9 and " + sign * above[i], x.odd(0), i >= width ? NONE : -2);
                    x.write(0, 57, 9 + sign * (above[i] >> 1));
                    due("width " + width + " of path 9 and " + sign * (above[i] >> 1), x.odd(0), i > width ? NONE : -2);
                }
            }
            putLeaps(x, 0, width, 20);
            x.write(0, 59, Long.MIN_VALUE + 6);
            due("width " + width + " of the least and 6", x.odd(0), width == 3 ? 19 : NONE);
            x.write(0, 59, Long.MAX_VALUE - 255 + 6);
            due("width " + width + " of the greatest", x.odd(0), width == 0 ? NONE : 19);
        }
        putLeaps(x, 0, 0, 20);
        x.write(0, 56, 1);
        due("write of one number alone", x.odd(0), 18);
        x.write(0, 56, 2);
        due("write of what was there", x.odd(0), NONE);
    }

    private static void refusedWrites() {
        DowrySteps x = hill();
        putLeaps(x, 0, 0, 20);
        putLeaps(x, 2, 0, 1);
        for (int slot : NO_SLOTS) {
            State.dueRefused(x, "write(" + slot + ", 0, 1)", () -> x.write(slot, 0, 1), -2);
            State.dueRefused(x, "write(" + slot + ", -1, 1)", () -> x.write(slot, -1, 1), -2);
        }
        for (int i : new int[] {0, -1, 60, MOST}) {
            State.dueRefused(x, "write(1, " + i + ", 1)", () -> x.write(1, i, 1), -6);
        }
        for (int i : new int[] {-1, -2, 60, 61, LEAST, MOST}) {
            State.dueRefused(x, "write(0, " + i + ", 1)", () -> x.write(0, i, 1), -7);
        }
        for (int i : new int[] {-1, 3, 4, 59}) {
            State.dueRefused(x, "write(2, " + i + ", 1)", () -> x.write(2, i, 1), -7);
        }
        due("write(0, 59, 6), the last", x.write(0, 59, 6), 0);
        due("write(0, 0, 0), the first", x.write(0, 0, 0), 0);
        due("write(2, 2, 1), the last", x.write(2, 2, 1), 0);
        due("odd(0)", x.odd(0), NONE);
    }

    private static void pasteAsTheyWere() {
        for (int width = 0; width < 4; width++) {
            DowrySteps x = hill();
            putLeaps(x, 0, width, 20);
            x.row(1, width, 60);
            due("paste of all", x.paste(0, 0, 1, 0, 60), 0);
            due("odd(1)", x.odd(1), NONE);
            due("odd(0), from which they came", x.odd(0), NONE);
            x.row(1, width, 3);
            due("paste of the last three", x.paste(0, 57, 1, 0, 3), 0);
            due("odd(1)", x.odd(1), NONE);
            due("paste to the first", x.paste(1, 0, 0, 0, 3), 0);
            due("odd(0), path 9 at first", x.odd(0), NONE);
            x.write(0, 2, 1);
            due("odd(0), as path 9 is at first", x.odd(0), 0);
        }
        DowrySteps x = hill();
        // its own, one upon the other: up by three, down by three, and upon itself
        int[][] moves = {{0, 3, 57}, {3, 0, 57}, {0, 0, 60}, {30, 30, 30}, {0, 30, 30}, {30, 0, 30}, {0, 57, 3}, {57, 0, 3}, {9, 12, 40}, {12, 9, 40}};
        for (int[] move : moves) {
            putLeaps(x, 0, 0, 20);
            due("paste(0, " + move[0] + ", 0, " + move[1] + ", " + move[2] + ")", x.paste(0, move[0], 0, move[1], move[2]), 0);
            int[] want = leapsRow();
            System.arraycopy(leapsRow(), move[0], want, move[1], move[2]);
            dueRow(x, want);
        }
        putLeaps(x, 0, 3, 20);
        putLeaps(x, 1, 3, 20);
        x.write(0, 59, 4294967296L + 6);
        x.paste(0, 59, 1, 59, 1);
        due("a number of eight bytes, whole", x.odd(1), 19);
    }

    private static int[] leapsRow() {
        int[] row = new int[60];
        for (int i = 0; i < 20; i++) {
            row[3 * i] = i % 10;
            row[3 * i + 1] = 2;
            row[3 * i + 2] = LEAPS[i % 10];
        }
        return row;
    }

    /** Slot 0 (of width 0) has just these numbers (0 .. 9): each in its turn is taken out as a path, whose leap tells which. */
    private static void dueRow(DowrySteps x, int[] want) {
        x.row(3, 0, 3);
        x.write(3, 1, 2);
        for (int i = 0; i < 60; i++) {
            x.paste(0, i, 3, 0, 1);
            x.write(3, 2, LEAPS[want[i]]);
            due("number " + i + ", its leap", x.odd(3), NONE);
        }
    }

    private static void refusedPastes() {
        DowrySteps x = hill();
        putLeaps(x, 0, 0, 20);
        putLeaps(x, 2, 1, 20);
        for (int slot : NO_SLOTS) {
            State.dueRefused(x, "paste(" + slot + ", 0, 0, 0, 1)", () -> x.paste(slot, 0, 0, 0, 1), -2);
            State.dueRefused(x, "paste(0, 0, " + slot + ", 0, 1)", () -> x.paste(0, 0, slot, 0, 1), -2);
            State.dueRefused(x, "paste(1, 0, " + slot + ", 0, 1), of nothing", () -> x.paste(1, 0, slot, 0, 1), -2);
            State.dueRefused(x, "paste(0, -1, " + slot + ", -1, -1)", () -> x.paste(0, -1, slot, -1, -1), -2);
        }
        for (int at : new int[] {0, -1, 61}) {
            State.dueRefused(x, "paste(1, " + at + ", 0, 0, 1)", () -> x.paste(1, at, 0, 0, 1), -6);
            State.dueRefused(x, "paste(0, " + at + ", 1, 0, 1)", () -> x.paste(0, at, 1, 0, 1), -6);
            State.dueRefused(x, "paste(1, " + at + ", 1, 0, 1)", () -> x.paste(1, at, 1, 0, 1), -6);
            State.dueRefused(x, "paste(0, " + at + ", 2, 0, 1)", () -> x.paste(0, at, 2, 0, 1), -8);
            State.dueRefused(x, "paste(2, 0, 0, " + at + ", 1)", () -> x.paste(2, 0, 0, at, 1), -8);
        }
        State.dueRefused(x, "paste(2, 0, 0, 0, 0)", () -> x.paste(2, 0, 0, 0, 0), -8);
        State.dueRefused(x, "paste(1, 0, 2, 0, 0)", () -> x.paste(1, 0, 2, 0, 0), -6);
        for (int one = 0; one < 4; one++) {
            for (int other = 0; other < 4; other++) {
                x.row(0, one, 60);
                x.row(2, other, 60);
                due("paste of widths " + one + " and " + other, x.paste(0, 0, 2, 0, 60), one == other ? 0 : -8);
            }
        }
    }

    private static void pasteBeyond() {
        DowrySteps x = hill();
        putLeaps(x, 0, 0, 20);
        putLeaps(x, 1, 0, 2);
        int[][] beyond = {{0, 0, 1, 0, 7}, {0, 0, 1, 1, 6}, {0, 0, 1, 5, 2}, {0, 0, 1, 6, 1}, {1, 0, 0, 0, 7}, {1, 1, 0, 0, 6}, {1, 5, 0, 0, 2}, {1, 6, 0, 0, 1},
            {0, 0, 0, 0, 61}, {0, 1, 0, 0, 60}, {0, 0, 0, 1, 60}, {0, 60, 0, 0, 1}, {0, 0, 0, 60, 1}, {0, 59, 1, 0, 2}, {0, 0, 0, 0, MOST},
            {0, MOST, 0, 0, 1}, {0, 0, 0, MOST, 1}, {0, MOST, 0, 0, MOST}, {0, 1, 0, 1, MOST}, {0, MOST, 0, MOST, MOST}, {0, 0, 0, 2, MOST - 1}};
        for (int[] b : beyond) {
            State.dueRefused(x, "paste" + java.util.Arrays.toString(b), () -> x.paste(b[0], b[1], b[2], b[3], b[4]), -7);
        }
        dueRow(x, leapsRow());
        due("paste(0, 0, 1, 0, 6)", x.paste(0, 0, 1, 0, 6), 0);
        due("paste(0, 0, 1, 5, 1)", x.paste(0, 0, 1, 5, 1), 0);
        due("paste(1, 5, 0, 59, 1)", x.paste(1, 5, 0, 59, 1), 0);
        due("paste(0, 59, 1, 0, 1)", x.paste(0, 59, 1, 0, 1), 0);
    }

    private static void pasteNone() {
        DowrySteps x = hill();
        putLeaps(x, 0, 0, 20);
        putLeaps(x, 1, 0, 2);
        x.row(2, 0, 0);
        int[][] fit = {{0, 0, 1, 0}, {0, 60, 1, 6}, {1, 6, 0, 60}, {0, 60, 0, 60}, {2, 0, 0, 0}, {0, 0, 2, 0}, {2, 0, 2, 0}};
        for (int[] f : fit) {
            List<Long> before = State.of(x);
            due("paste none" + java.util.Arrays.toString(f), x.paste(f[0], f[1], f[2], f[3], 0), 0);
            due("whether all stays", before.equals(State.of(x)) ? 1 : 0, 1);
        }
        int[][] above = {{0, 61, 1, 0}, {0, 0, 1, 7}, {1, 7, 0, 0}, {0, 0, 0, 61}, {2, 1, 0, 0}, {0, 0, 2, 1}, {0, MOST, 1, 0}, {0, 0, 1, MOST}, {2, 1, 2, 1}};
        for (int[] a : above) {
            State.dueRefused(x, "paste none" + java.util.Arrays.toString(a), () -> x.paste(a[0], a[1], a[2], a[3], 0), -7);
        }
        State.dueRefused(x, "paste of one from none", () -> x.paste(2, 0, 0, 0, 1), -7);
        State.dueRefused(x, "paste of one to none", () -> x.paste(0, 0, 2, 0, 1), -7);
    }

    private static void pasteBelow() {
        DowrySteps x = hill();
        putLeaps(x, 0, 0, 20);
        putLeaps(x, 1, 0, 2);
        int[][] below = {{0, -1, 1, 0, 1}, {0, 0, 1, -1, 1}, {0, 0, 1, 0, -1}, {0, -1, 1, 0, 0}, {0, 0, 1, -1, 0}, {0, 6, 1, 6, -1}, {0, LEAST, 1, 0, 1},
            {0, 0, 1, LEAST, 1}, {0, 0, 1, 0, LEAST}, {0, 60, 1, 6, LEAST}, {0, -1, 0, -1, 2}, {0, 1, 0, 2, -1}, {0, LEAST, 0, LEAST, LEAST},
            {0, LEAST, 1, 0, MOST}, {0, MOST, 1, 0, LEAST}};
        for (int[] b : below) {
            State.dueRefused(x, "paste" + java.util.Arrays.toString(b), () -> x.paste(b[0], b[1], b[2], b[3], b[4]), -7);
        }
        dueRow(x, leapsRow());
    }
}
