import java.util.ArrayList;
import java.util.List;

/** All that an object tells of its mountain, its courting, its tape's length and its slots: to see that a call changed nothing. */
final class State {
    private State() {
    }

    static List<Long> of(DowrySteps x) {
        List<Long> all = new ArrayList<>();
        for (int what = -1; what <= 10; what++) {
            all.add((long) x.count(what));
        }
        for (int p = 0; p < x.count(2); p++) {
            addPath(all, x, p);
        }
        for (int b = 0; b < x.count(3); b++) {
            for (int what = 0; what < 4; what++) {
                all.add((long) x.bride(b, what));
            }
        }
        for (int s = 0; s < x.count(4); s++) {
            for (int what = 0; what < 5; what++) {
                all.add((long) x.suitor(s, what));
            }
        }
        for (int w = 0; w < x.count(5); w++) {
            for (int y = 0; y < x.count(1); y++) {
                all.add((long) x.reach(w, y));
                all.add((long) x.high(w, y));
            }
        }
        all.add((long) x.hearts());
        for (int slot = 0; slot < 4; slot++) {
            all.add((long) x.odd(slot));
            all.add((long) x.agree(slot));
        }
        return all;
    }

    private static void addPath(List<Long> all, DowrySteps x, int p) {
        for (int what = 0; what < 3; what++) {
            all.add((long) x.path(p, what));
        }
        for (int y = 0; y < x.count(1); y++) {
            all.add((long) x.leap(p, y));
            for (int i = 0; i < 7; i++) {
                all.add((long) x.whose(p, y, i));
            }
            all.add(x.safe(p, y, 0));
            all.add(x.safe(p, y, 1));
        }
    }

    /** A call that is refused answers so, and all stays. */
    static void dueRefused(DowrySteps x, String call, java.util.function.LongSupplier asked, long want) {
        List<Long> before = of(x);
        Checks.due(call, asked.getAsLong(), want);
        Checks.due(call + ": whether all stays", before.equals(of(x)) ? 1 : 0, 1);
    }
}
