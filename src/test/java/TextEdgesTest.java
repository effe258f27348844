import java.util.ArrayList;
import java.util.List;

/** Term I by sentence: what may stand in a text, at its bounds, below and above them, and where its FAULT is then. */
public final class TextEdgesTest {
    private static final int NONE = -1;
    private static final String TWO = "mountain places 2 years 1;";
    private static final String EIGHT = "mountain places 8 years 30;";
    private static final String PATH = TWO + "path 0 to 1;";
    private static final String BRIDE = PATH + "bride path 0 in 0;";
    private static final String SUITOR = BRIDE + "suitor skill 0 spite 0 for 0;";
    private static final String TEN_PATHS = "path 0 to 1;path 0 to 2;path 0 to 3;path 0 to 4;path 0 to 5;path 0 to 6;path 0 to 7;"
        + "path 1 to 2;path 1 to 3;path 1 to 4;";

    /** Ten paths, four brides, seven suitors, four walkers: as many as there can be, each unlike the others. */
    private static final String FULL = EIGHT
        + "height 0 1;height 1 3;height 2 6;height 3 10;height 4 15;height 5 21;height 6 28;height 7 36;" + TEN_PATHS
        + "bride path 9 in 4;bride path 0 in 29;bride path 5 in 0;bride path 3 in 2;"
        + "suitor skill 10 spite 5 for 0;suitor skill 11 spite 6 for 1 0;suitor skill 12 spite 7 for 2;"
        + "suitor skill 13 spite 8 for 3 2;suitor skill 14 spite 9 for 3;suitor skill 15 spite 10 for 0 1 2 3;"
        + "suitor skill 16 spite 11 for 3 1;walker leap 2 at 0;walker leap 99 at 7;walker leap 0 at 3;walker leap 11 at 4;";

    private static final String EACH_LINE = "mountain places 4 years 3;height 2 40;path 1 to 2;path 3 to 2;bride path 1 in 2;"
        + "bride path 0 in 0;suitor skill 9 spite 80 for 1 0;rain 2 is 70;walker leap 50 at 3;court 0 1;";

    private static void due(String call, long got, long want) {
        Checks.due(call, got, want);
    }

    private static String times(int n, String part) {
        StringBuilder text = new StringBuilder();
        for (int i = 0; i < n; i++) {
            text.append(part);
        }
        return text.toString();
    }

    public static void main(String[] args) {
        Sentences.ofTerm(1, "mountain is the first LINE and no other", TextEdgesTest::mountainIsTheFirst);
        Sentences.ofTerm(1, "{LINE ;}", TextEdgesTest::linesOrNone);
        Sentences.ofTerm(1, "places 2 .. 8", () -> bounded("mountain places ", " years 1;", 2, 8));
        Sentences.ofTerm(1, "years 1 .. 30", () -> bounded("mountain places 2 years ", ";", 1, 30));
        Sentences.ofTerm(1, "YEARS 0 .. years less 1", TextEdgesTest::years);
        Sentences.ofTerm(1, "P a PLACE 0 .. places less 1", TextEdgesTest::placesOfAll);
        Sentences.ofTerm(1, "height 0 .. 99 (a later one strikes; 0 without)", TextEdgesTest::heights);
        Sentences.ofTerm(1, "path: two unlike PLACES without a PATH between them", TextEdgesTest::paths);
        Sentences.ofTerm(1, "bride: a PATH told ahead, in a YEAR", TextEdgesTest::brides);
        Sentences.ofTerm(1, "skill 0 .. 30", () -> bounded(BRIDE + "suitor skill ", " spite 0 for 0;", 0, 30));
        Sentences.ofTerm(1, "spite 0 .. 100", () -> bounded(BRIDE + "suitor skill 0 spite ", " for 0;", 0, 100));
        Sentences.ofTerm(1, "B: unlike BRIDES told ahead", TextEdgesTest::bridesOfSuitors);
        Sentences.ofTerm(1, "rain of a YEAR 0 .. 100 (a later one strikes; 0 without)", TextEdgesTest::rains);
        Sentences.ofTerm(1, "leap 0 .. 99", TextEdgesTest::leaps);
        Sentences.ofTerm(1, "court: a SUITOR told ahead, a BRIDE of those for whom he is (a later one of that SUITOR strikes)",
            TextEdgesTest::courts);
        Sentences.ofTerm(1, "PATHS 0 .. 9, BRIDES 0 .. 3, SUITORS 0 .. 6, WALKERS 0 .. 3 are numbered as they stand",
            TextEdgesTest::numberedAsTheyStand);
        tokens();
        faults();
        Checks.finish("edges of texts");
    }

    private static void tokens() {
        Sentences.ofTerm(1, "TOKENS, blanks (32, 10) aside", TextEdgesTest::blanks);
        Sentences.ofTerm(1, "the longest: words (a .. z), numbers (digits), the sign ;", TextEdgesTest::longest);
    }

    private static void faults() {
        Sentences.ofTerm(1, "FAULTS, the first by its place", TextEdgesTest::firstByPlace);
        Sentences.ofTerm(1, "a TOKEN's first byte; the end's", TextEdgesTest::firstByteOrEnd);
        Sentences.ofTerm(1, "of one place the least", TextEdgesTest::leastOfOnePlace);
        Sentences.ofTerm(1, "1 a TOKEN that is none", TextEdgesTest::noToken);
        Sentences.ofTerm(1, "or can't stand there", TextEdgesTest::cannotStandThere);
        Sentences.ofTerm(1, "or can't stand there", TextEdgesTest::tokenLeftOut);
        Sentences.ofTerm(1, "or can't stand there", TextEdgesTest::moreLeftOut);
        Sentences.ofTerm(1, "or can't stand there", TextEdgesTest::letterChanged);
        Sentences.ofTerm(1, "(mountain behind the first LINE, another word ahead of it)", TextEdgesTest::mountainAndOthers);
        Sentences.ofTerm(1, "2 a number out of its bounds", TextEdgesTest::veryGreatNumbers);
        Sentences.ofTerm(1, "not as said (of two PLACES at the second; at the BRIDE for whom a SUITOR is not)", TextEdgesTest::notAsSaid);
        Sentences.ofTerm(1, "an 11th path", TextEdgesTest::eleventhPath);
        Sentences.ofTerm(1, "5th bride", () -> oneTooMany(PATH, "bride path 0 in 0;", "bride", 4, 3));
        Sentences.ofTerm(1, "8th suitor", () -> oneTooMany(BRIDE, "suitor skill 0 spite 0 for 0;", "suitor", 7, 4));
        Sentences.ofTerm(1, "5th walker", () -> oneTooMany(TWO, "walker leap 0 at 0;", "walker", 4, 5));
        Sentences.ofTerm(1, "at its word", TextEdgesTest::tooManyAtItsWord);
    }

    /** A number between two parts of a text: low and high may stand there, one below or above is fault 2 at its first byte. */
    private static void bounded(String before, String behind, int low, int high) {
        for (int fit : new int[] {low, low + 1, high - 1, high}) {
            if (fit >= low && fit <= high) {
                Checks.fine(before + fit + behind);
            }
        }
        Checks.fine(before + "0" + low + behind);
        Checks.fine(before + "0000000000000000000000" + high + behind);
        if (low > 0) {
            Checks.faulty(before + "^" + (low - 1) + behind, 2);
            Checks.faulty(before + "^0" + behind, 2);
        }
        Checks.faulty(before + "^" + (high + 1) + behind, 2);
        Checks.faulty(before + "^0" + (high + 2) + behind, 2);
        Checks.faulty(before + "^" + (high * 10 + 10) + behind, 2);
        Checks.faulty(before + "^-" + low + behind, 1);
        Checks.faulty(before + "^+" + low + behind, 1);
        Checks.faulty(before.trim() + "^;" + behind, 1);
    }

    private static void mountainIsTheFirst() {
        String[] others = {"height 0 0", "path 0 to 1", "bride path 0 in 0", "suitor skill 0 spite 0 for 0", "rain 0 is 0",
            "walker leap 0 at 0", "court 0 0"};
        for (String other : others) {
            Checks.faulty("^" + other + ";", 1);
            Checks.faulty("^" + other + ";" + TWO, 1);
        }
        Checks.fine(TWO);
        Checks.faulty(TWO + "^" + TWO, 1);
        Checks.faulty(SUITOR + "walker leap 0 at 0;rain 0 is 0;height 0 0;court 0 0;^mountain places 2 years 1;", 1);
    }

    private static void linesOrNone() {
        Checks.fine("");
        Checks.fine(" ");
        Checks.fine("\n \n");
        Checks.fine(TWO);
        Checks.fine(TWO + " ");
        Checks.faulty("^;", 1);
        Checks.faulty(TWO + "^;", 1);
        Checks.faulty("mountain places 2 years 1^", 1);
        Checks.faulty(TWO + "rain 0 is 0^", 1);
        Checks.faulty(TWO + "rain 0 is 0 ^rain 0 is 0;", 1);
    }

    private static void years() {
        for (int years : new int[] {1, 2, 30}) {
            String head = "mountain places 2 years " + years + ";path 0 to 1;";
            bounded(head + "rain ", " is 0;", 0, years - 1);
            bounded(head + "bride path 0 in ", ";", 0, years - 1);
            DowrySteps x = Checks.fine(head);
            due("steps(0, -1)", x.steps(0, -1), -2);
            due("steps(0, 0)", x.steps(0, 0), 0);
            due("steps(0, years less 1)", x.steps(0, years - 1), 0);
            due("steps(0, years)", x.steps(0, years), -2);
        }
    }

    private static void placesOfAll() {
        for (int places : new int[] {2, 3, 8}) {
            String head = "mountain places " + places + " years 1;";
            bounded(head + "height ", " 0;", 0, places - 1);
            bounded(head + "walker leap 0 at ", ";", 0, places - 1);
            Checks.fine(head + "path 0 to " + (places - 1) + ";");
            Checks.fine(head + "path " + (places - 1) + " to 0;");
            Checks.faulty(head + "path ^" + places + " to 0;", 2);
            Checks.faulty(head + "path 0 to ^" + places + ";", 2);
            Checks.faulty(head + "path ^" + places + " to " + places + ";", 2);
            DowrySteps x = Checks.fine(head);
            due("need(0, places less 1, 0)", x.need(0, places - 1, 0), NONE);
            due("need(0, places, 0)", x.need(0, places, 0), -2);
            due("need(0, -1, 0)", x.need(0, -1, 0), -2);
        }
    }

    private static void heights() {
        bounded(TWO + "height 0 ", ";", 0, 99);
        due("0 without", Checks.fine(PATH + "height 1 5;").path(0, 2), 5);
        due("0 without, both", Checks.fine(PATH).path(0, 2), 0);
        due("99 above 0", Checks.fine(PATH + "height 1 99;height 0 0;").path(0, 2), 99);
        due("a later one", Checks.fine(TWO + "height 1 50;path 0 to 1;height 1 7;").path(0, 2), 7);
        due("a later one of 0", Checks.fine(TWO + "height 1 99;path 0 to 1;height 1 0;").path(0, 2), 0);
        due("the last of three", Checks.fine(PATH + "height 0 3;height 0 99;height 0 12;").path(0, 2), 12);
        due("not that of another place", Checks.fine(PATH + "height 0 3;height 1 9;").path(0, 2), 6);
    }

    private static void paths() {
        Checks.faulty(TWO + "path 0 to ^0;", 2);
        Checks.faulty(TWO + "path 1 to ^1;", 2);
        Checks.fine(TWO + "path 1 to 0;");
        Checks.faulty(PATH + "path 0 to ^1;", 2);
        Checks.faulty(PATH + "path 1 to ^0;", 2);
        Checks.faulty(EIGHT + TEN_PATHS.substring(0, TEN_PATHS.length() - 12) + "path 7 to ^0;", 2);
        Checks.faulty(EIGHT + "path 6 to 7;path 7 to 5;path 7 to ^6;", 2);
        Checks.fine(EIGHT + "path 6 to 7;path 7 to 5;path 5 to 6;");
    }

    private static void brides() {
        bounded(PATH + "bride path ", " in 0;", 0, 0);
        Checks.faulty(TWO + "bride path ^0 in 0;path 0 to 1;", 2);
        Checks.faulty(EIGHT + "path 0 to 1;bride path ^1 in 0;path 1 to 2;", 2);
        Checks.fine(EIGHT + "path 0 to 1;path 1 to 2;bride path 1 in 0;");
        Checks.fine(EIGHT + TEN_PATHS + "bride path 9 in 29;");
        Checks.faulty(EIGHT + TEN_PATHS + "bride path ^10 in 29;", 2);
        Checks.faulty(EIGHT + TEN_PATHS + "bride path 9 in ^30;", 2);
        due("two brides of one path", Checks.fine(BRIDE + "bride path 0 in 0;").count(3), 2);
    }

    private static void bridesOfSuitors() {
        String suitor = "suitor skill 0 spite 0 for ";
        String four = PATH + times(4, "bride path 0 in 0;");
        bounded(BRIDE + suitor, ";", 0, 0);
        bounded(four + suitor, ";", 0, 3);
        Checks.faulty(PATH + suitor + "^0;bride path 0 in 0;", 2);
        Checks.faulty(BRIDE + suitor + "^1;bride path 0 in 0;", 2);
        Checks.faulty(BRIDE + suitor + "^;", 1);
        Checks.faulty(BRIDE + suitor + "0 ^0;", 2);
        Checks.faulty(four + suitor + "3 2 1 ^3;", 2);
        Checks.faulty(four + suitor + "3 2 1 0 ^0;", 2);
        Checks.faulty(four + suitor + "3 2 1 0 ^4;", 2);
        Checks.faulty(four + suitor + "3 2 ^4;", 2);
        Checks.faulty(four + suitor + "3 2 ^for;", 1);
        due("one of four", Checks.fine(four + suitor + "3;").suitor(0, 2), 8);
        due("three of four", Checks.fine(four + suitor + "3 0 2;").suitor(0, 2), 13);
        due("all four", Checks.fine(four + suitor + "3 2 1 0;").suitor(0, 2), 15);
    }

    private static void rains() {
        String steps = SUITOR + "court 0 0;";
        bounded(TWO + "rain 0 is ", ";", 0, 100);
        due("0 without", Checks.fine(steps).safe(0, 0, 0), 1);
        due("of 100, none is safe", Checks.fine(steps + "rain 0 is 100;").safe(0, 0, 0), 0);
        due("of 99, one of a hundred", Checks.fine(steps + "rain 0 is 99;").safe(0, 0, 1), 100);
        due("a later one", Checks.fine(steps + "rain 0 is 100;rain 0 is 50;").safe(0, 0, 1), 2);
        due("a later one of 0", Checks.fine(steps + "rain 0 is 100;rain 0 is 0;").safe(0, 0, 0), 1);
        String two = steps.replace("years 1", "years 2").replace("skill 0", "skill 1");
        due("not that of another year", Checks.fine(two + "rain 1 is 100;").safe(0, 0, 0), 1);
    }

    private static void leaps() {
        bounded(TWO + "walker leap ", " at 0;", 0, 99);
        String high = PATH + "height 1 99;";
        due("99 over 99", Checks.fine(high + "walker leap 99 at 0;").reach(0, 0), 3);
        due("98 over 99", Checks.fine(high + "walker leap 98 at 0;").reach(0, 0), 1);
        due("0 over 0", Checks.fine(PATH + "walker leap 0 at 0;").reach(0, 0), 3);
        due("0 over 1", Checks.fine(PATH + "height 1 1;walker leap 0 at 0;").reach(0, 0), 1);
    }

    private static void courts() {
        String two = BRIDE + "bride path 0 in 0;";
        String suitor = "suitor skill 0 spite 0 for 1;";
        Checks.faulty(TWO + "court ^0 0;", 2);
        Checks.faulty(BRIDE + "court ^0 0;suitor skill 0 spite 0 for 0;", 2);
        Checks.faulty(SUITOR + "court ^1 0;", 2);
        Checks.faulty(two + suitor + "court 0 ^0;", 2);
        Checks.faulty(two + suitor + "court 0 ^2;", 2);
        Checks.faulty(two + suitor + "court 0 ^4294967297;", 2);
        Checks.fine(two + suitor + "court 0 1;");
        Checks.faulty(two + suitor + "court 0 ^;", 1);
        Checks.faulty(two + suitor + "court 0 ^court 0 1;", 1);
        Checks.faulty(two + suitor + "court ^;", 1);
        Checks.faulty(two + times(7, suitor) + "court ^7 1;", 2);
        due("the last of seven", Checks.fine(two + times(7, suitor) + "court 6 1;").count(8), 64);
        DowrySteps x = Checks.fine(two + "suitor skill 0 spite 0 for 0 1;" + suitor + "court 0 0;court 1 1;court 0 1;court 0 0;court 0 1;");
        due("a later one of suitor 0", x.suitor(0, 3), 1);
        due("suitor 1, whom it does not strike", x.suitor(1, 3), 1);
    }

    private static void numberedAsTheyStand() {
        DowrySteps x = Checks.fine(FULL);
        int[] from = {0, 0, 0, 0, 0, 0, 0, 1, 1, 1};
        int[] to = {1, 2, 3, 4, 5, 6, 7, 2, 3, 4};
        for (int p = 0; p < 10; p++) {
            due("path(" + p + ", 0)", x.path(p, 0), from[p]);
            due("path(" + p + ", 1)", x.path(p, 1), to[p]);
        }
        int[] paths = {9, 0, 5, 3};
        int[] years = {4, 29, 0, 2};
        for (int b = 0; b < 4; b++) {
            due("bride(" + b + ", 0)", x.bride(b, 0), paths[b]);
            due("bride(" + b + ", 1)", x.bride(b, 1), years[b]);
        }
        int[] brides = {1, 3, 4, 12, 8, 15, 10};
        for (int s = 0; s < 7; s++) {
            due("suitor(" + s + ", 0)", x.suitor(s, 0), 10 + s);
            due("suitor(" + s + ", 1)", x.suitor(s, 1), 5 + s);
            due("suitor(" + s + ", 2)", x.suitor(s, 2), brides[s]);
        }
        int[] high = {1, 7, 3, 4};
        for (int w = 0; w < 4; w++) {
            due("high(" + w + ", 0)", x.high(w, 0), high[w]);
        }
        due("path 10", x.path(10, 0), -2);
        due("bride 4", x.bride(4, 0), -2);
        due("suitor 7", x.suitor(7, 0), -2);
        due("walker 4", x.high(4, 0), -2);
    }

    private static void blanks() {
        Checks.fine("\n mountain\n\nplaces  2\n years \n1 ; ");
        Checks.fine("mountain\nplaces\n2\nyears\n1\n;\n");
        Checks.fine("mountain places2years1;path0to1;bride path0in0;suitor skill0spite0for0;rain0is0;walker leap0at0;court0 0;");
        for (int sign = 0; sign < 256; sign++) {
            String text = "mountain places 2 years 1" + (char) sign + ";";
            boolean more = sign >= '0' && sign <= '9';
            if (sign == 32 || sign == 10 || more) {
                due("years with sign " + sign, Checks.fine(text).count(1), more ? 10 + sign - '0' : 1);
            } else {
                Checks.faultyAt(text, 1, sign == ';' ? 26 : 25);
            }
        }
    }

    private static void longest() {
        for (int sign = 0; sign < 256; sign++) {
            String text = "mountain" + (char) sign + "places 2 years 1;";
            if (sign == 32 || sign == 10) {
                Checks.fine(text);
            } else {
                Checks.faultyAt(text, 1, sign >= 'a' && sign <= 'z' ? 0 : 8);
            }
        }
        Checks.faulty("^mountains places 2 years 1;", 1);
        Checks.faulty("^mountai places 2 years 1;", 1);
        Checks.faulty("^mountainplaces 2 years 1;", 1);
        Checks.faulty("mountain places 2 ^yearsx 1;", 1);
        Checks.faulty("mountain places ^22 years 1;", 2);
        Checks.faulty("mountain places 2 ^2 years 1;", 1);
        Checks.faulty(TWO + "height 0 0 ^1;", 1);
        due("a blank parts two brides", Checks.fine(PATH + times(2, "bride path 0 in 0;") + "suitor skill 0 spite 0 for 0 1;").suitor(0, 2), 3);
        due("without one it is one number", Checks.fine(PATH + times(2, "bride path 0 in 0;") + "suitor skill 0 spite 0 for 01;").suitor(0, 2), 2);
    }

    private static void firstByPlace() {
        Checks.faulty("mountain places ^1 years 0;", 2);
        Checks.faulty("mountain places ^9 year 1;", 2);
        Checks.faulty("mountain ^place 9 years 1;", 1);
        Checks.faulty(TWO + "height ^2 100;", 2);
        Checks.faulty(TWO + "height 1 ^100 . path;", 2);
        Checks.faulty(TWO + times(4, "walker leap 0 at 0;") + "^walker leap 100 at 2;", 3);
        Checks.faulty(TWO + times(4, "walker leap 0 at 0;") + "height ^2 0;walker leap 0 at 0;", 2);
        Checks.faulty(TWO + "path 0 to ^0 . ;", 2);
        Checks.faulty(TWO + "path 0 ^at 0;", 1);
    }

    private static void firstByteOrEnd() {
        Checks.faulty("   ^height 0 1;", 1);
        Checks.faulty("mountain places   ^100 years 1;", 2);
        Checks.faulty("mountain places \n\n^years 2 1;", 1);
        Checks.faulty("mountain^", 1);
        Checks.faulty("mountain places^", 1);
        Checks.faulty("mountain places 2^", 1);
        Checks.faulty("mountain places 2 years^", 1);
        Checks.faulty("mountain places 2 years 1^", 1);
        Checks.faulty("mountain places 2 years 1 \n ^", 1);
        Checks.faulty("^m", 1);
    }

    private static void leastOfOnePlace() {
        String ten = EIGHT + TEN_PATHS;
        Checks.faulty(ten + "height ^path 2 to 3;", 1);
        Checks.faulty(ten + "^path", 3);
        Checks.faulty("mountain ^99 2 years 1;", 1);
        Checks.faulty("mountain places 2 ^31 1;", 1);
        Checks.faulty(TWO + "path 0 ^2 1;", 1);
        Checks.faulty("^99", 1);
        Checks.faulty("^path 0 to 0;", 1);
    }

    private static void noToken() {
        for (int sign = 0; sign < 256; sign++) {
            boolean token = sign == 32 || sign == 10 || sign == ';' || sign >= '0' && sign <= '9' || sign >= 'a' && sign <= 'z';
            if (!token) {
                Checks.faultyAt((char) sign + TWO, 1, 0);
                Checks.faultyAt(TWO + "height 1 " + (char) sign, 1, 35);
                Checks.faultyAt(TWO + "height 1 1" + (char) sign + ";", 1, 36);
                Checks.faultyAt(TWO + (char) sign, 1, 26);
            }
        }
    }

    /** Where the tokens of the text that has each line begin. */
    private static List<Integer> starts() {
        List<Integer> starts = new ArrayList<>();
        for (int i = 0; i < EACH_LINE.length(); i++) {
            char sign = EACH_LINE.charAt(i);
            char before = i == 0 ? ';' : EACH_LINE.charAt(i - 1);
            if (sign != ' ' && (sign == ';' || before == ' ' || before == ';')) {
                starts.add(i);
            }
        }
        return starts;
    }

    /** Each token in its turn is left out: what stands behind it can't stand there then. */
    private static void tokenLeftOut() {
        List<Integer> starts = starts();
        for (int t = 0; t < starts.size(); t++) {
            int start = starts.get(t);
            int next = t + 1 < starts.size() ? starts.get(t + 1) : EACH_LINE.length();
            String head = EACH_LINE.substring(0, start);
            String rest = EACH_LINE.substring(next);
            if (EACH_LINE.startsWith("bride", start)) {
                // what is left begins as the line of a path does
                Checks.faulty(head + rest.replaceFirst(" in ", " ^in "), 1);
            } else if (EACH_LINE.startsWith("1 0;rain", start) || EACH_LINE.startsWith("0;rain", start)) {
                Checks.fine((head + rest).replace("court 0 1", "court 0 " + (rest.startsWith("0") ? 0 : 1)));
            } else {
                // a height stands where a place is due then, and a bride where a suitor is
                boolean otherNumber = EACH_LINE.startsWith("2 40", start) || EACH_LINE.startsWith("0 1;", start);
                Checks.faulty(head + "^" + rest, otherNumber ? 2 : 1);
            }
        }
    }

    /** More than one token is left out, so that the next word is one of its line, but not the one that is due. */
    private static void moreLeftOut() {
        Checks.faulty("mountain ^years 1;", 1);
        Checks.faulty("mountain ^;", 1);
        Checks.faulty("mountain places 2 ^;", 1);
        String[] lines = {"height ^", "height 0 ^", "path ^", "path ^to 1", "path 0 ^", "path 0 to ^", "bride ^", "bride ^in 0", "bride path ^in 0", "bride path 0 ^",
            "bride path 0 in ^", "suitor ^", "suitor ^spite 0 for 0", "suitor skill 0 ^for 0", "suitor ^for 0", "suitor skill 0 spite 0 ^", "suitor skill 0 ^",
            "rain ^", "rain ^is 0", "rain 0 ^", "rain 0 is ^", "walker ^", "walker ^at 0", "walker leap ^at 0", "walker leap 0 ^", "walker leap 0 at ^", "court ^", "court 0 ^"};
        for (String line : lines) {
            Checks.faulty(SUITOR + line + ";", 1);
            Checks.faulty(SUITOR + line, 1);
        }
    }

    /** Each letter of each word in its turn is another one, is left out, or stands there twice. */
    private static void letterChanged() {
        for (int start : starts()) {
            int end = start;
            while (EACH_LINE.charAt(end) >= 'a' && EACH_LINE.charAt(end) <= 'z') {
                end++;
            }
            for (int i = start; i < end; i++) {
                String head = EACH_LINE.substring(0, start) + "^" + EACH_LINE.substring(start, i);
                String rest = EACH_LINE.substring(i + 1);
                char letter = EACH_LINE.charAt(i);
                Checks.faulty(head + (letter == 'z' ? 'y' : (char) (letter + 1)) + rest, 1);
                Checks.faulty(head + letter + letter + rest, 1);
                if (end - start > 1) {
                    Checks.faulty(head + rest, 1);
                }
            }
        }
    }

    /** Of a text that has each line: each token in its turn is a word, a number, a sign that cannot stand there, or the end. */
    private static void cannotStandThere() {
        Checks.fine(EACH_LINE);
        due("tokens", starts().size(), 56);
        for (int start : starts()) {
            char sign = EACH_LINE.charAt(start);
            boolean lineBegins = start == 0 || EACH_LINE.charAt(start - 1) == ';';
            boolean isNumber = sign >= '0' && sign <= '9';
            // behind a bride for whom he is, another may stand
            boolean brideMay = EACH_LINE.startsWith("1 0;rain", start) || EACH_LINE.startsWith("0;rain", start)
                || EACH_LINE.startsWith(";rain", start);
            String head = EACH_LINE.substring(0, start);
            Checks.faulty(head + "^. 0;", 1);
            Checks.faulty(head + "^z 0;", 1);
            Checks.faulty(head + "^mountaim;", 1);
            if (!isNumber && !brideMay) {
                Checks.faulty(head.endsWith(" ") || lineBegins ? head + "^0 0;" : head + " ^0 0;", 1);
            }
            if (sign != ';' && !EACH_LINE.startsWith("0;rain", start)) {
                Checks.faulty(head + "^;", 1);
            }
            if (!lineBegins) {
                Checks.faulty(head + "^", 1);
            }
        }
    }

    private static void mountainAndOthers() {
        Checks.faulty(TWO + "^mountain;", 1);
        Checks.faulty("^suitor skill 99 spite 0 for 0;", 1);
        Checks.faulty("^rain;", 1);
        Checks.faulty(" \n^court", 1);
        Checks.faulty("^places 2 years 1;", 1);
    }

    private static void veryGreatNumbers() {
        String[] wraps = {"4294967298", "18446744073709551618", "340282366920938463463374607431768211458", "1000000", "999999", "1000002",
            "2147483647", "2147483648", "9223372036854775807", "9223372036854775808"};
        for (String great : wraps) {
            Checks.faulty("mountain places ^" + great + " years 1;", 2);
            Checks.faulty(TWO + "height 0 ^" + great + ";", 2);
            Checks.faulty(SUITOR + "court 0 ^" + great + ";", 2);
            Checks.faulty(BRIDE + "suitor skill 0 spite 0 for 0 ^" + great + ";", 2);
        }
        Checks.faulty("mountain places ^" + times(1200, "9") + " years 1;", 2);
        Checks.fine("mountain places " + times(1200, "0") + "2 years 1;");
    }

    private static void notAsSaid() {
        Checks.faulty(TWO + "path 1 to ^1;", 2);
        Checks.faulty(PATH + "path 1 to ^0;", 2);
        Checks.faulty(TWO + "path ^2 to 2;", 2);
        Checks.faulty(BRIDE + "bride path 0 in 0;suitor skill 0 spite 0 for 1;court 0 ^0;", 2);
        Checks.faulty(SUITOR + "bride path 0 in 0;court 0 ^1;", 2);
    }

    private static void eleventhPath() {
        due("ten paths", Checks.fine(EIGHT + TEN_PATHS).count(2), 10);
        due("nine paths", Checks.fine(EIGHT + TEN_PATHS.substring(12)).count(2), 9);
        Checks.faulty(EIGHT + TEN_PATHS + "^path 6 to 7;", 3);
        Checks.faulty(EIGHT + TEN_PATHS + "height 0 0;^path 6 to 7;", 3);
    }

    private static void oneTooMany(String head, String line, String word, int most, int what) {
        due("as many as can be", Checks.fine(head + times(most, line)).count(what), most);
        due("one fewer", Checks.fine(head + times(most - 1, line)).count(what), most - 1);
        Checks.faulty(head + times(most, line) + "^" + line, 3);
        Checks.faulty(head + times(most, line) + "rain 0 is 0;^" + word, 3);
    }

    private static void tooManyAtItsWord() {
        String walkers = TWO + times(4, "walker leap 0 at 0;");
        Checks.faulty(walkers + " \n ^walker", 3);
        Checks.faulty(walkers + "^walkers", 1);
        Checks.faulty(EIGHT + TEN_PATHS + "^path 0 to 0;", 3);
        Checks.faulty(PATH + times(4, "bride path 0 in 0;") + "^bride path 1 in 1;", 3);
        Checks.faulty(BRIDE + times(7, "suitor skill 0 spite 0 for 0;") + "^suitor skill 31 spite 0 for;", 3);
    }
}
