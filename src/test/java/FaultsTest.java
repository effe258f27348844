import java.util.ArrayList;
import java.util.HashSet;
import java.util.List;
import java.util.Random;
import java.util.Set;

/** Texts spoilt at random (from a fixed seed): the FAULT and its place against a second reader that goes by lists of tokens. */
public final class FaultsTest {
    private static final Random DICE = new Random(7);

    private final List<String> tokens = new ArrayList<>();
    private final List<Integer> starts = new ArrayList<>();
    private int at = 0;
    private int fault = 0;
    private int place = -1;
    private int lines = 0;
    private int places;
    private int years;
    private int brides;
    private int walkers;
    private final Set<String> paths = new HashSet<>();
    private final List<Set<Integer>> suitors = new ArrayList<>();

    private static final class Stop extends RuntimeException {
        private static final long serialVersionUID = 1L;
    }

    private FaultsTest(byte[] text) {
        for (int i = 0; i < text.length;) {
            int from = i;
            String kind = kindOf(text[i]);
            i++;
            while (i < text.length && kindOf(text[i]).equals(kind) && (kind.equals("w") || kind.equals("n"))) {
                i++;
            }
            if (!kind.equals("b")) {
                StringBuilder token = new StringBuilder(kind);
                for (int k = from; k < i; k++) {
                    token.append((char) (text[k] & 255));
                }
                tokens.add(token.toString());
                starts.add(from);
            }
        }
        tokens.add("end");
        starts.add(text.length);
        try {
            while (!tokens.get(at).equals("end")) {
                line();
            }
        } catch (Stop stop) {
            lines = -4;
        }
    }

    private static String kindOf(byte sign) {
        int c = sign & 255;
        if (c == 32 || c == 10) {
            return "b";
        }
        if (c >= 97 && c <= 122) {
            return "w";
        }
        return c >= 48 && c <= 57 ? "n" : "s";
    }

    private void stop(int what) {
        fault = what;
        place = starts.get(at);
        throw new Stop();
    }

    private void need(boolean holds, int what) {
        if (!holds) {
            stop(what);
        }
    }

    private void word(String... words) {
        for (String word : words) {
            need(tokens.get(at).equals("w" + word), 1);
            at++;
        }
    }

    private int peek() {
        need(tokens.get(at).startsWith("n"), 1);
        String digits = tokens.get(at).substring(1).replaceFirst("^0+(?=.)", "");
        return digits.length() > 6 ? 999999 : Integer.parseInt(digits);
    }

    private int number(int low, int high) {
        int n = peek();
        need(n >= low && n <= high, 2);
        at++;
        return n;
    }

    private void line() {
        String word = tokens.get(at);
        need(lines == 0 == word.equals("wmountain"), 1);
        switch (word) {
            case "wmountain":
                word("mountain", "places");
                places = number(2, 8);
                word("years");
                years = number(1, 30);
                break;
            case "wheight":
                at++;
                number(0, places - 1);
                number(0, 99);
                break;
            case "wpath":
                path();
                break;
            case "wbride":
                need(brides < 4, 3);
                word("bride", "path");
                number(0, paths.size() / 2 - 1);
                word("in");
                number(0, years - 1);
                brides++;
                break;
            case "wsuitor":
                suitor();
                break;
            case "wrain":
                at++;
                number(0, years - 1);
                word("is");
                number(0, 100);
                break;
            case "wwalker":
                need(walkers < 4, 3);
                word("walker", "leap");
                number(0, 99);
                word("at");
                number(0, places - 1);
                walkers++;
                break;
            case "wcourt":
                at++;
                int s = number(0, suitors.size() - 1);
                need(suitors.get(s).contains(peek()), 2);
                at++;
                break;
            default:
                stop(1);
        }
        need(tokens.get(at).equals("s;"), 1);
        at++;
        lines++;
    }

    private void path() {
        need(paths.size() < 20, 3);
        at++;
        int a = number(0, places - 1);
        word("to");
        int b = peek();
        need(b < places && a != b && !paths.contains(a + "-" + b), 2);
        at++;
        paths.add(a + "-" + b);
        paths.add(b + "-" + a);
    }

    private void suitor() {
        need(suitors.size() < 7, 3);
        word("suitor", "skill");
        number(0, 30);
        word("spite");
        number(0, 100);
        word("for");
        Set<Integer> some = new HashSet<>();
        do {
            int b = peek();
            need(b < brides && !some.contains(b), 2);
            some.add(b);
            at++;
        } while (tokens.get(at).startsWith("n"));
        suitors.add(some);
    }

    private static final String[] WORDS = {"mountain", "places", "years", "height", "path", "to", "bride", "in", "suitor",
        "skill", "spite", "for", "rain", "is", "walker", "leap", "at", "court", ";", ".", "-1", "0", "1", "2", "3", "4",
        "7", "8", "9", "29", "30", "31", "99", "100", "101", "007", "00000000000000000000001", "12345678901234567890",
        "Path", "pathway", "pat", "\t", "\u00e9", "\u0000", "z", "a"};

    private static final String[] LINES = {"height 1 10;", "height 2 99;", "path 0 to 1;", "path 1 to 2;", "path 2 to 0;",
        "path 0 to 3;", "path 3 to 1;", "path 4 to 0;", "path 5 to 0;", "path 6 to 0;", "path 7 to 0;", "path 2 to 3;",
        "path 3 to 4;", "path 4 to 5;", "bride path 0 in 0;", "bride path 1 in 1;", "suitor skill 0 spite 0 for 0;",
        "suitor skill 30 spite 100 for 1 0;", "suitor skill 3 spite 10 for 2 3 0 1;", "rain 0 is 100;", "rain 1 is 0;",
        "walker leap 99 at 1;", "walker leap 0 at 0;", "court 0 0;", "court 1 1;", "court 1 0;"};

    /** A text that is right or nearly: of lines in some order, a few tokens put in, taken away or put in place of others. */
    private static byte[] draw() {
        List<String> parts = new ArrayList<>();
        String lines = "mountain places " + (DICE.nextInt(4) == 0 ? 3 : 8) + " years 2;";
        for (int i = 0; i < LINES.length; i++) {
            int times = DICE.nextInt(20) == 0 ? 1 + DICE.nextInt(9) : DICE.nextInt(4) == 0 ? 0 : 1;
            for (int k = 0; k < times && lines.length() < 600; k++) {
                lines += LINES[DICE.nextInt(40) == 0 ? DICE.nextInt(LINES.length) : i];
            }
        }
        for (String part : lines.replace(";", " ;").split(" |(?<=;)")) {
            parts.add(part);
        }
        for (int i = DICE.nextInt(4); i > 0 && !parts.isEmpty(); i--) {
            int k = DICE.nextInt(parts.size());
            String word = WORDS[DICE.nextInt(WORDS.length)];
            switch (DICE.nextInt(4)) {
                case 0: parts.add(k, word); break;
                case 1: parts.set(k, word); break;
                case 2: parts.remove(k); break;
                default: parts = new ArrayList<>(parts.subList(0, k + 1));
            }
        }
        StringBuilder text = new StringBuilder();
        for (String part : parts) {
            text.append(part);
            for (int i = DICE.nextInt(60) == 0 ? 0 : 1 + DICE.nextInt(2); i > 0; i--) {
                text.append(DICE.nextInt(5) == 0 ? '\n' : ' ');
            }
        }
        return Checks.bytesOf(text.toString());
    }

    public static void main(String[] args) {
        int[] faults = new int[4];
        DowrySteps x = new DowrySteps();
        for (int round = 0; round < 20000; round++) {
            byte[] text = draw();
            if (text.length > 1400) {
                continue;
            }
            FaultsTest due = new FaultsTest(text);
            Checks.feedText(x, text);
            String told = new String(text, java.nio.charset.StandardCharsets.ISO_8859_1);
            Checks.due("mountain() of " + told, x.mountain(), due.lines);
            Checks.due("fault(0) of " + told, x.fault(0), due.fault);
            Checks.due("fault(1) of " + told, x.fault(1), due.place);
            faults[due.fault]++;
        }
        for (int fault = 0; fault < 4; fault++) {
            Checks.due("enough texts of fault " + fault + " (" + faults[fault] + ")", faults[fault] > 300 ? 1 : 0, 1);
        }
        Checks.finish("faults");
    }
}
