/** What the tests share: comparing answers, and telling a text to an object. */
final class Checks {
    private static int asked = 0;
    private static int wrong = 0;
    /** What the answers belong to, told ahead of each that is wrong. */
    private static String about = "";

    private Checks() {
    }

    static void tellAbout(String what) {
        about = what;
    }

    static int askedSoFar() {
        return asked;
    }

    static void due(String call, long got, long want) {
        asked++;
        if (got != want) {
            wrong++;
            if (wrong <= 40) {
                System.out.println(about + call + " answered " + got + ", due is " + want);
            }
        }
    }

    /** Puts a text behind the TAPE: as many whole feeds as it needs, and end for what is too much. */
    static void feedText(DowrySteps x, byte[] text) {
        int before = x.count(7);
        int[] five = new int[5];
        for (int at = 0; at < text.length; at += 20) {
            for (int k = 0; k < 5; k++) {
                five[k] = 0;
                for (int i = 0; i < 4; i++) {
                    int from = at + 4 * k + i;
                    five[k] = five[k] << 8 | (from < text.length ? text[from] & 255 : 32);
                }
            }
            x.feed(five[0], five[1], five[2], five[3], five[4]);
        }
        x.end(before + text.length);
    }

    static byte[] bytesOf(String text) {
        byte[] bytes = new byte[text.length()];
        for (int i = 0; i < bytes.length; i++) {
            bytes[i] = (byte) text.charAt(i);
        }
        return bytes;
    }

    static int tell(DowrySteps x, String text) {
        feedText(x, bytesOf(text));
        return x.mountain();
    }

    static DowrySteps told(String text) {
        DowrySteps x = new DowrySteps();
        int lines = tell(x, text);
        if (lines < 0) {
            due("mountain() of " + text + " (fault " + x.fault(0) + " at " + x.fault(1) + ")", lines, 0);
        }
        return x;
    }

    /** A text without a fault: as many lines as it has signs ; are told. */
    static DowrySteps fine(String text) {
        DowrySteps x = new DowrySteps();
        due("mountain() of " + text, tell(x, text), text.chars().filter(c -> c == ';').count());
        due("fault(0) of " + text, x.fault(0), 0);
        due("fault(1) of " + text, x.fault(1), -1);
        return x;
    }

    /** A text whose first fault is where the sign ^ stands, which is no part of it. */
    static void faulty(String marked, int fault) {
        int place = marked.indexOf('^');
        faultyAt(marked.substring(0, place) + marked.substring(place + 1), fault, place);
    }

    static void faultyAt(String text, int fault, int place) {
        DowrySteps x = new DowrySteps();
        due("mountain() of " + text, tell(x, text), -4);
        due("fault(0) of " + text, x.fault(0), fault);
        due("fault(1) of " + text, x.fault(1), place);
    }

    /** Makes a slot's row of these numbers. */
    static void putRow(DowrySteps x, int slot, int width, long... numbers) {
        x.row(slot, width, numbers.length);
        for (int i = 0; i < numbers.length; i++) {
            x.write(slot, i, numbers[i]);
        }
    }

    static void finish(String name) {
        System.out.println(name + ": " + asked + " answers, " + wrong + " not as due");
        if (wrong != 0) {
            System.exit(1);
        }
    }
}
