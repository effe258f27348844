import java.util.Arrays;

/** A mountain told as a text, whose paths get their steps from suitors; DOC.md says what each call answers. */
public final class DowrySteps {
    public static final int NONE = -1;

    private static final int NO_SUCH = -2;
    private static final int BELOW_NOTHING = -3;
    private static final int FAULTY = -4;
    private static final int HAS_NOTHING = -6;
    private static final int BEYOND = -7;
    private static final int OTHER_WIDTH = -8;

    private static final int MAX_TAPE = 1400;
    private static final int FED_AT_ONCE = 20;
    private static final int MAX_PLACES = 8;
    private static final int MAX_YEARS = 30;
    private static final int MAX_PATHS = 10;
    private static final int MAX_BRIDES = 4;
    private static final int MAX_SUITORS = 7;
    private static final int MAX_WALKERS = 4;
    private static final int MAX_NUMBER = 99;
    private static final int HUNDRED = 100;
    private static final int IMAGES = 3;
    private static final int SLOTS = 4;
    private static final int WIDTHS = 4;
    private static final int MAX_ROW = 60;
    private static final int MAX_MOVES = 40;
    private static final int MAX_WALKS = 20;
    private static final int MAX_SEED = 2000000000;
    private static final int NOBODY_AT_ALL = 9;
    private static final int FAR = 1000000;

    /** A hundred to the seventh: a chance is told of so many, exact for the seven steps that there can be. */
    private static final long CERTAIN = 100000000000000L;

    private static final int FAULT_TOKEN = 1;
    private static final int FAULT_NUMBER = 2;
    private static final int FAULT_TOO_MANY = 3;

    private static final int KIND_END = 0;
    private static final int KIND_WORD = 1;
    private static final int KIND_NUMBER = 2;
    private static final int KIND_SEMICOLON = 3;
    private static final int KIND_OTHER = 4;

    private static final int HOLDS_BY_NONE = 0;
    private static final int HOLDS_BY_ALL = 1;
    private static final int HOLDS_BY_SOME = 2;

    /** Counts of steps are packed, three bits each: no count is above seven, so none runs over. */
    private static final int COUNT_BITS = 3;
    private static final int COUNT_MASK = 7;
    private static final int MEASURE_NUMBERS = 3;

    private final byte[] tape = new byte[MAX_TAPE];
    private int taped = 0;
    private final Reader reader = new Reader();
    private Mountain now = new Mountain();
    private Mountain spare = new Mountain();
    private final Mountain[] images = new Mountain[IMAGES];
    private final boolean[] kept = new boolean[IMAGES];
    private final Slot[] slots = new Slot[SLOTS];
    private final Ways found = new Ways();
    private final Search search = new Search();
    private final Coming coming = new Coming();
    private final Measuring measuring = new Measuring();
    private final int[] thought = new int[MAX_SUITORS];
    private final int[] costs = new int[MAX_PLACES];
    private final int[] prices = new int[MAX_PATHS];

    public DowrySteps() {
        for (int k = 0; k < IMAGES; k++) {
            images[k] = new Mountain();
        }
        for (int k = 0; k < SLOTS; k++) {
            slots[k] = new Slot();
        }
    }

    // ---- the tape and the mountain ----

    public int feed(int a, int b, int c, int d, int e) {
        if (taped + FED_AT_ONCE > MAX_TAPE) {
            return NONE;
        }
        putNumber(a);
        putNumber(b);
        putNumber(c);
        putNumber(d);
        putNumber(e);
        return taped;
    }

    private void putNumber(int number) {
        for (int shift = 24; shift >= 0; shift -= 8) {
            if (taped >= 0 && taped < tape.length) {
                tape[taped] = (byte) (number >>> shift);
                taped++;
            }
        }
    }

    public int end(int n) {
        if (n < 0 || n > taped) {
            return NONE;
        }
        taped = n;
        return n;
    }

    public int mountain() {
        int length = taped;
        taped = 0;
        if (!reader.readWhole(tape, length, spare)) {
            return FAULTY;
        }
        Mountain before = now;
        now = spare;
        spare = before;
        return now.lines;
    }

    public int fault(int what) {
        if (what == 0) {
            return reader.fault;
        }
        return what == 1 ? reader.faultPlace : NONE;
    }

    public int path(int path, int what) {
        if (!now.hasPath(path)) {
            return NO_SUCH;
        }
        switch (what) {
            case 0: return now.pathFrom[path];
            case 1: return now.pathTo[path];
            case 2: return now.dropOf(path);
            default: return NO_SUCH;
        }
    }

    // ---- the courting as it is ----

    public int court(int suitor, int bride) {
        if (!now.hasSuitor(suitor) || bride != NONE && !now.isFor(suitor, bride)) {
            return NO_SUCH;
        }
        int before = now.courts[suitor];
        now.courts[suitor] = bride;
        return before;
    }

    public int bride(int bride, int what) {
        if (!now.hasBride(bride)) {
            return NO_SUCH;
        }
        switch (what) {
            case 0: return now.bridePath[bride];
            case 1: return now.brideYear[bride];
            case 2: return now.courtersOf(now.courts, bride);
            case 3: return now.takenBy(now.courts, bride);
            default: return NO_SUCH;
        }
    }

    public int suitor(int suitor, int what) {
        if (!now.hasSuitor(suitor)) {
            return NO_SUCH;
        }
        switch (what) {
            case 0: return now.skill[suitor];
            case 1: return now.spite[suitor];
            case 2: return now.forWhom[suitor];
            case 3: return now.courts[suitor];
            case 4: return now.isRefused(now.courts, suitor) ? 1 : 0;
            default: return NO_SUCH;
        }
    }

    public int hearts() {
        if (!now.isTold()) {
            return NO_SUCH;
        }
        int broken = 0;
        for (int s = 0; s < now.suitors; s++) {
            if (now.isRefused(now.courts, s)) {
                broken++;
            }
        }
        return broken;
    }

    // ---- steps, leaps and chances of one path ----

    private boolean knowsPath(int path, int year) {
        return now.hasPath(path) && now.hasYear(year);
    }

    public int steps(int path, int year) {
        return knowsPath(path, year) ? now.stepsOn(path, year, NONE) : NO_SUCH;
    }

    public int whose(int path, int year, int i) {
        if (!knowsPath(path, year)) {
            return NO_SUCH;
        }
        int passed = 0;
        for (int s = 0; s < now.suitors; s++) {
            if (now.hasStep(s, path, year)) {
                if (passed == i) {
                    return s;
                }
                passed++;
            }
        }
        return NONE;
    }

    public int leap(int path, int year) {
        return knowsPath(path, year) ? now.leapOf(path, year) : NO_SUCH;
    }

    public int rots(int path) {
        if (!now.hasPath(path)) {
            return NO_SUCH;
        }
        for (int y = now.years - 1; y >= 0; y--) {
            if (now.stepsOn(path, y, NONE) > 0) {
                return y == now.years - 1 ? NONE : y + 1;
            }
        }
        return NONE;
    }

    public int lacks(int path, int year, int n) {
        if (!knowsPath(path, year) || n < 0 || n > MAX_NUMBER) {
            return NO_SUCH;
        }
        return now.lackingOn(path, year, n);
    }

    public long safe(int path, int year, int what) {
        if (!knowsPath(path, year) || what < 0 || what > 1) {
            return NO_SUCH;
        }
        return lowestTerm(now.safeAlong(CERTAIN, path, year), what);
    }

    public int most(int path, int year) {
        if (!knowsPath(path, year)) {
            return NO_SUCH;
        }
        int able = 0;
        for (int s = 0; s < now.suitors; s++) {
            if (couldStep(s, path, year)) {
                able++;
            }
        }
        return able;
    }

    private boolean couldStep(int suitor, int path, int year) {
        for (int b = 0; b < now.brides; b++) {
            if (now.isFor(suitor, b) && now.wouldStep(suitor, b, path, year)) {
                return true;
            }
        }
        return false;
    }

    public int worst(int path, int year) {
        if (!knowsPath(path, year)) {
            return NO_SUCH;
        }
        int which = NONE;
        int most = -1;
        for (int s = 0; s < now.suitors; s++) {
            if (now.hasStep(s, path, year) && now.fallOf(s, year) > most) {
                which = s;
                most = now.fallOf(s, year);
            }
        }
        return which;
    }

    public int dry(int path) {
        if (!now.hasPath(path)) {
            return NO_SUCH;
        }
        int which = 0;
        long best = -1;
        for (int y = 0; y < now.years; y++) {
            long chance = now.safeAlong(CERTAIN, path, y);
            if (chance > best) {
                best = chance;
                which = y;
            }
        }
        return which;
    }

    /** The number above (what 0) or below (1) of a chance of CERTAIN, in lowest terms. */
    private static long lowestTerm(long chance, int what) {
        long common = commonDivisor(CERTAIN, chance);
        long told = what == 0 ? chance : CERTAIN;
        return common > 0 ? told / common : told;
    }

    private static long commonDivisor(long one, long other) {
        long a = one;
        long b = other;
        // Euclid's steps for numbers below 2 to the 63rd are fewer than a hundred
        for (int i = 0; i < 200 && b != 0; i++) {
            long rest = a % b;
            a = b;
            b = rest;
        }
        return a;
    }

    // ---- ways of a walker ----

    private boolean knowsWay(int walker, int to, int year) {
        return now.hasWalker(walker) && now.hasPlace(to) && now.hasYear(year);
    }

    public int reach(int walker, int year) {
        return now.hasWalker(walker) && now.hasYear(year) ? now.reachOf(walker, year, NONE) : NO_SUCH;
    }

    private boolean canCome(int walker, int to, int year) {
        return (now.reachOf(walker, year, NONE) >> to & 1) == 1;
    }

    public int shortest(int walker, int to, int year) {
        if (!knowsWay(walker, to, year)) {
            return NO_SUCH;
        }
        found.findAll(now, walker, to, year);
        return found.shortLength;
    }

    public int goes(int walker, int to, int year, int i) {
        if (!knowsWay(walker, to, year)) {
            return NO_SUCH;
        }
        found.findAll(now, walker, to, year);
        return i >= 0 && i < found.shortLength ? found.shortRow[i] : NONE;
    }

    public long safest(int walker, int to, int year, int what) {
        if (!knowsWay(walker, to, year) || what < 0 || what > 2) {
            return NO_SUCH;
        }
        found.findAll(now, walker, to, year);
        if (found.safeLength == NONE) {
            return NONE;
        }
        return what == 2 ? found.safeLength : lowestTerm(found.safeChance, what);
    }

    public int place(int walker, int to, int year, int i) {
        if (!knowsWay(walker, to, year)) {
            return NO_SUCH;
        }
        found.findAll(now, walker, to, year);
        return i >= 0 && i < found.safeLength ? found.safeRow[i] : NONE;
    }

    public int ways(int walker, int to, int year) {
        if (!knowsWay(walker, to, year)) {
            return NO_SUCH;
        }
        found.findAll(now, walker, to, year);
        return found.total;
    }

    public int when(int walker, int to, int what) {
        if (!now.hasWalker(walker) || !now.hasPlace(to) || what < 0 || what > 2) {
            return NO_SUCH;
        }
        int first = NONE;
        int last = NONE;
        int total = 0;
        for (int y = 0; y < now.years; y++) {
            if (canCome(walker, to, y)) {
                first = total == 0 ? y : first;
                last = y;
                total++;
            }
        }
        if (what == 2) {
            return total;
        }
        return what == 0 ? first : last;
    }

    public int climbs(int walker, int to, int year, int what) {
        if (!knowsWay(walker, to, year) || what < 0 || what > 1) {
            return NO_SUCH;
        }
        found.findAll(now, walker, to, year);
        if (found.shortLength == NONE) {
            return NONE;
        }
        int sum = 0;
        for (int i = 1; i < found.shortLength; i++) {
            int up = now.heights[found.shortRow[i]] - now.heights[found.shortRow[i - 1]];
            sum += Math.max(what == 0 ? up : -up, 0);
        }
        return sum;
    }

    public int high(int walker, int year) {
        if (!now.hasWalker(walker) || !now.hasYear(year)) {
            return NO_SUCH;
        }
        int here = now.reachOf(walker, year, NONE);
        int which = now.walkerAt[walker];
        int top = -1;
        for (int p = 0; p < now.places; p++) {
            if ((here >> p & 1) == 1 && now.heights[p] > top) {
                top = now.heights[p];
                which = p;
            }
        }
        return which;
    }

    public int parts(int year, int n) {
        if (!now.hasYear(year) || n < 0 || n > MAX_NUMBER) {
            return NO_SUCH;
        }
        int open = now.openPaths(n, year, NONE);
        int known = 0;
        int total = 0;
        for (int p = 0; p < now.places; p++) {
            if ((known >> p & 1) == 0) {
                known |= now.placesFrom(p, open);
                total++;
            }
        }
        return total;
    }

    public int cuts(int walker, int to, int year) {
        if (!knowsWay(walker, to, year)) {
            return NO_SUCH;
        }
        if (!canCome(walker, to, year)) {
            return NONE;
        }
        int open = now.openPaths(now.walkerLeap[walker], year, NONE);
        int needed = 0;
        for (int p = 0; p < now.paths; p++) {
            int here = now.placesFrom(now.walkerAt[walker], open & ~(1 << p));
            if ((here >> to & 1) == 0) {
                needed |= 1 << p;
            }
        }
        return needed;
    }

    public int vain(int suitor) {
        if (!now.hasSuitor(suitor)) {
            return NO_SUCH;
        }
        if (now.courts[suitor] == NONE) {
            return NONE;
        }
        for (int w = 0; w < now.walkers; w++) {
            for (int y = 0; y < now.years; y++) {
                if (now.reachOf(w, y, NONE) != now.reachOf(w, y, suitor)) {
                    return 0;
                }
            }
        }
        return 1;
    }

    // ---- leaps and steps that would be needed ----

    public int need(int from, int to, int year) {
        if (!now.hasPlace(from) || !now.hasPlace(to) || !now.hasYear(year)) {
            return NO_SUCH;
        }
        for (int p = 0; p < now.paths; p++) {
            prices[p] = now.leapOf(p, year);
        }
        return cheapest(from, to, false);
    }

    public int sold(int walker, int to, int year) {
        if (!knowsWay(walker, to, year)) {
            return NO_SUCH;
        }
        for (int p = 0; p < now.paths; p++) {
            prices[p] = now.lackingOn(p, year, now.walkerLeap[walker]);
        }
        return cheapest(now.walkerAt[walker], to, true);
    }

    /** The least price of a way from a place to another: of its paths the sum, or else the greatest; NONE: no way. */
    private int cheapest(int from, int to, boolean adds) {
        Arrays.fill(costs, FAR);
        costs[from] = 0;
        for (int round = 0; round < now.places; round++) {
            for (int p = 0; p < now.paths; p++) {
                if (prices[p] != NONE) {
                    passPrice(now.pathFrom[p], now.pathTo[p], prices[p], adds);
                    passPrice(now.pathTo[p], now.pathFrom[p], prices[p], adds);
                }
            }
        }
        return costs[to] < FAR ? costs[to] : NONE;
    }

    private void passPrice(int from, int to, int price, boolean adds) {
        int cost = adds ? costs[from] + price : Math.max(costs[from], price);
        costs[to] = Math.min(costs[to], cost);
    }

    public int more(int walker, int to, int year, int n) {
        if (!knowsWay(walker, to, year) || n < 1 || n > 9) {
            return NO_SUCH;
        }
        if (canCome(walker, to, year)) {
            return NONE;
        }
        int open = now.openPaths(now.walkerLeap[walker], year, NONE);
        for (int p = 0; p < now.paths; p++) {
            int lacking = now.lackingOn(p, year, now.walkerLeap[walker]);
            if (lacking != NONE && lacking <= n) {
                int here = now.placesFrom(now.walkerAt[walker], open | 1 << p);
                if ((here >> to & 1) == 1) {
                    return p;
                }
            }
        }
        return NONE;
    }

    // ---- all courtings by which somebody comes somewhere ----

    private void searchComing(int firstWalker, int walkerBehind, int to, int year) {
        coming.aimAt(now, firstWalker, walkerBehind, to, year);
        search.seek(now, coming);
    }

    public int fewest(int walker, int to, int year) {
        if (!knowsWay(walker, to, year)) {
            return NO_SUCH;
        }
        searchComing(walker, walker + 1, to, year);
        return search.fewestHearts;
    }

    public int whom(int walker, int to, int year, int suitor) {
        if (!knowsWay(walker, to, year) || !now.hasSuitor(suitor)) {
            return NO_SUCH;
        }
        searchComing(walker, walker + 1, to, year);
        return search.first[suitor];
    }

    public int all(int to, int year) {
        if (!now.hasPlace(to) || !now.hasYear(year)) {
            return NO_SUCH;
        }
        searchComing(0, now.walkers, to, year);
        return search.fewestHearts;
    }

    public int courtings(int walker, int to, int year) {
        if (!knowsWay(walker, to, year)) {
            return NO_SUCH;
        }
        searchComing(walker, walker + 1, to, year);
        return search.total;
    }

    public int busy(int walker, int to, int year) {
        if (!knowsWay(walker, to, year)) {
            return NO_SUCH;
        }
        searchComing(walker, walker + 1, to, year);
        return search.fewestBusy;
    }

    // ---- courtings that explain what was measured ----

    private Slot slotAt(int slot) {
        return slot >= 0 && slot < SLOTS ? slots[slot] : null;
    }

    /** 0 if a slot's row can be asked as MEASURED, else the answer that says why not. */
    private int refusalOf(Slot slot) {
        if (slot == null || !now.isTold()) {
            return NO_SUCH;
        }
        if (slot.length == NONE) {
            return HAS_NOTHING;
        }
        return slot.isMeasured(now) ? 0 : NO_SUCH;
    }

    /** Seeks all courtings that agree: 0, or the answer that says why there can be no such search. */
    private int searchAgreeing(int slot) {
        Slot row = slotAt(slot);
        int refusal = refusalOf(row);
        if (refusal == 0 && row != null) {
            measuring.takeOver(now, row);
            search.seek(now, measuring);
        }
        return refusal;
    }

    public int agree(int slot) {
        int refusal = searchAgreeing(slot);
        return refusal != 0 ? refusal : search.total;
    }

    public int sure(int slot, int suitor) {
        if (!now.hasSuitor(suitor)) {
            return NO_SUCH;
        }
        int refusal = searchAgreeing(slot);
        return refusal != 0 ? refusal : search.sameByAll(suitor);
    }

    public int kindly(int slot) {
        int refusal = searchAgreeing(slot);
        return refusal != 0 ? refusal : search.fewestHearts;
    }

    public int odd(int slot) {
        Slot row = slotAt(slot);
        int refusal = refusalOf(row);
        if (refusal != 0 || row == null) {
            return refusal;
        }
        for (int m = 0; m < row.measures(); m++) {
            if (now.leapOf(row.pathOf(m), row.yearOf(m)) != row.leapTold(m)) {
                return m;
            }
        }
        return NONE;
    }

    // ---- hopes and peace ----

    public int hopes(int suitor) {
        return now.hasSuitor(suitor) ? now.hopeOf(now.courts, suitor) : NO_SUCH;
    }

    public int peace() {
        if (!now.isTold()) {
            return NO_SUCH;
        }
        return now.firstHoping(now.courts) == NONE ? 1 : 0;
    }

    public int peaces(int n) {
        if (!now.isTold() || n < 0 || n > MAX_MOVES) {
            return NO_SUCH;
        }
        return calmInThought(n);
    }

    public int then(int suitor, int n) {
        if (!now.hasSuitor(suitor) || n < 0 || n > MAX_MOVES) {
            return NO_SUCH;
        }
        calmInThought(n);
        return thought[suitor];
    }

    /** Lets those who hope move, in thought, n times at most: how many moves brought peace; NONE: there is none. */
    private int calmInThought(int n) {
        copyRow(now.courts, thought);
        for (int moves = 0; moves <= n; moves++) {
            int s = now.firstHoping(thought);
            if (s == NONE) {
                return moves;
            }
            if (moves < n) {
                thought[s] = now.hopeOf(thought, s);
            }
        }
        return NONE;
    }

    // ---- walks ----

    public int walk(int seed, int walker, int to, int year) {
        if (!knowsWay(walker, to, year) || seed < 0 || seed > MAX_SEED) {
            return NO_SUCH;
        }
        found.findAll(now, walker, to, year);
        return endOfWalk(seed, year);
    }

    public int walks(int seed, int n, int walker, int to, int year) {
        if (!knowsWay(walker, to, year) || seed < 0 || seed > MAX_SEED || n < 1 || n > MAX_WALKS) {
            return NO_SUCH;
        }
        found.findAll(now, walker, to, year);
        if (found.safeLength == NONE) {
            return NONE;
        }
        int there = 0;
        for (int i = 0; i < n; i++) {
            if (endOfWalk((long) seed + i, year) == to) {
                there++;
            }
        }
        return there;
    }

    /** Where a walk from a seed along the safest way that was found last ends; NONE: there is no way. */
    private int endOfWalk(long seed, int year) {
        if (found.safeLength == NONE) {
            return NONE;
        }
        long x = seed;
        for (int i = 1; i < found.safeLength; i++) {
            int from = found.safeRow[i - 1];
            int to = found.safeRow[i];
            int path = now.pathBetween(from, to);
            for (int s = 0; s < now.suitors; s++) {
                if (now.hasStep(s, path, year)) {
                    x = (1103515245L * x + 12345L) % 2147483648L;
                    if (x / 65536L % HUNDRED < now.fallOf(s, year)) {
                        return now.heights[to] < now.heights[from] ? to : from;
                    }
                }
            }
        }
        return found.safeRow[found.safeLength - 1];
    }

    // ---- counts, images and slots ----

    public int count(int what) {
        switch (what) {
            case 0: return now.places;
            case 1: return now.years;
            case 2: return now.paths;
            case 3: return now.brides;
            case 4: return now.suitors;
            case 5: return now.walkers;
            case 6: return now.lines;
            case 7: return taped;
            case 8: return courtersAsBits();
            case 9: return slotsWithRows();
            default: return NONE;
        }
    }

    private int courtersAsBits() {
        int bits = 0;
        for (int s = 0; s < now.suitors; s++) {
            if (now.courts[s] != NONE) {
                bits |= 1 << s;
            }
        }
        return bits;
    }

    private int slotsWithRows() {
        int total = 0;
        for (int k = 0; k < SLOTS; k++) {
            Slot row = slotAt(k);
            if (row != null && row.length != NONE) {
                total++;
            }
        }
        return total;
    }

    public int image(int k) {
        if (k < 0 || k >= IMAGES || images[k] == null) {
            return NO_SUCH;
        }
        images[k].takeFrom(now);
        kept[k] = true;
        return 0;
    }

    public int back(int k) {
        if (k < 0 || k >= IMAGES || images[k] == null) {
            return NO_SUCH;
        }
        if (!kept[k]) {
            return HAS_NOTHING;
        }
        now.takeFrom(images[k]);
        return 0;
    }

    public int row(int slot, int width, int n) {
        Slot row = slotAt(slot);
        if (row == null || width < 0 || width >= WIDTHS || n > MAX_ROW) {
            return NO_SUCH;
        }
        if (n < 0) {
            return BELOW_NOTHING;
        }
        row.width = width;
        row.length = n;
        Arrays.fill(row.numbers, 0L);
        return 0;
    }

    public int write(int slot, int i, long v) {
        Slot row = slotAt(slot);
        if (row == null) {
            return NO_SUCH;
        }
        if (row.length == NONE) {
            return HAS_NOTHING;
        }
        if (i < 0 || i >= row.length) {
            return BEYOND;
        }
        row.numbers[i] = cutToWidth(v, row.width);
        return 0;
    }

    private static long cutToWidth(long v, int width) {
        switch (width) {
            case 0: return (byte) v;
            case 1: return (short) v;
            case 2: return (int) v;
            default: return v;
        }
    }

    public int paste(int slot, int i, int to, int k, int n) {
        Slot source = slotAt(slot);
        Slot target = slotAt(to);
        if (source == null || target == null) {
            return NO_SUCH;
        }
        if (source.length == NONE || target.length == NONE) {
            return HAS_NOTHING;
        }
        if (source.width != target.width) {
            return OTHER_WIDTH;
        }
        if (!source.holds(i, n) || !target.holds(k, n)) {
            return BEYOND;
        }
        System.arraycopy(source.numbers, i, target.numbers, k, n);
        return 0;
    }

    private static void copyRow(int[] from, int[] to) {
        System.arraycopy(from, 0, to, 0, Math.min(from.length, to.length));
    }

    private static int roundedUp(int a, int b) {
        return b > 0 ? (a + b - 1) / b : 0;
    }

    /** How many steps more a drop needs, so many being there, for no leap above n; NONE: no number is enough. */
    private static int lacking(int drop, int there, int n) {
        if (drop <= n * (there + 1)) {
            return 0;
        }
        return n == 0 ? NONE : roundedUp(drop, n) - 1 - there;
    }

    /** What a MOUNTAIN's text told, and the COURTING; there is no MOUNTAIN while it has no places. */
    private static final class Mountain {
        private int lines;
        private int places;
        private int years;
        private int paths;
        private int brides;
        private int suitors;
        private int walkers;
        private final int[] heights = new int[MAX_PLACES];
        private final int[] pathFrom = new int[MAX_PATHS];
        private final int[] pathTo = new int[MAX_PATHS];
        private final int[] bridePath = new int[MAX_BRIDES];
        private final int[] brideYear = new int[MAX_BRIDES];
        private final int[] skill = new int[MAX_SUITORS];
        private final int[] spite = new int[MAX_SUITORS];
        private final int[] forWhom = new int[MAX_SUITORS];
        private final int[] courts = new int[MAX_SUITORS];
        private final int[] rain = new int[MAX_YEARS];
        private final int[] walkerLeap = new int[MAX_WALKERS];
        private final int[] walkerAt = new int[MAX_WALKERS];

        private void clearAll() {
            lines = 0;
            places = 0;
            years = 0;
            paths = 0;
            brides = 0;
            suitors = 0;
            walkers = 0;
            Arrays.fill(heights, 0);
            Arrays.fill(rain, 0);
            Arrays.fill(courts, NONE);
        }

        private void takeFrom(Mountain other) {
            lines = other.lines;
            places = other.places;
            years = other.years;
            paths = other.paths;
            brides = other.brides;
            suitors = other.suitors;
            walkers = other.walkers;
            copyRow(other.heights, heights);
            copyRow(other.pathFrom, pathFrom);
            copyRow(other.pathTo, pathTo);
            copyRow(other.bridePath, bridePath);
            copyRow(other.brideYear, brideYear);
            copyRow(other.skill, skill);
            copyRow(other.spite, spite);
            copyRow(other.forWhom, forWhom);
            copyRow(other.courts, courts);
            copyRow(other.rain, rain);
            copyRow(other.walkerLeap, walkerLeap);
            copyRow(other.walkerAt, walkerAt);
        }

        private boolean isTold() {
            return places > 0;
        }

        private boolean hasPlace(int place) {
            return place >= 0 && place < places;
        }

        private boolean hasYear(int year) {
            return year >= 0 && year < years;
        }

        private boolean hasPath(int path) {
            return path >= 0 && path < paths;
        }

        private boolean hasBride(int bride) {
            return bride >= 0 && bride < brides;
        }

        private boolean hasSuitor(int suitor) {
            return suitor >= 0 && suitor < suitors;
        }

        private boolean hasWalker(int walker) {
            return walker >= 0 && walker < walkers;
        }

        private boolean isFor(int suitor, int bride) {
            return hasSuitor(suitor) && hasBride(bride) && (forWhom[suitor] >> bride & 1) == 1;
        }

        private int pathBetween(int a, int b) {
            for (int p = 0; p < paths; p++) {
                if (pathFrom[p] == a && pathTo[p] == b || pathFrom[p] == b && pathTo[p] == a) {
                    return p;
                }
            }
            return NONE;
        }

        private int dropOf(int path) {
            return Math.abs(heights[pathFrom[path]] - heights[pathTo[path]]);
        }

        private int courtersOf(int[] courting, int bride) {
            int total = 0;
            for (int s = 0; s < suitors; s++) {
                if (courting[s] == bride) {
                    total++;
                }
            }
            return total;
        }

        private int takenBy(int[] courting, int bride) {
            int best = NONE;
            for (int s = 0; s < suitors; s++) {
                if (courting[s] == bride && (best == NONE || skill[s] > skill[best])) {
                    best = s;
                }
            }
            return best;
        }

        private boolean isRefused(int[] courting, int suitor) {
            return courting[suitor] != NONE && takenBy(courting, courting[suitor]) != suitor;
        }

        /** The first other bride who would take a refused suitor, NONE without. */
        private int hopeOf(int[] courting, int suitor) {
            if (!isRefused(courting, suitor)) {
                return NONE;
            }
            for (int b = 0; b < brides; b++) {
                if (b != courting[suitor] && isFor(suitor, b) && wouldBeTaken(courting, suitor, b)) {
                    return b;
                }
            }
            return NONE;
        }

        private boolean wouldBeTaken(int[] courting, int suitor, int bride) {
            int rival = takenBy(courting, bride);
            return rival == NONE || skill[suitor] > skill[rival] || skill[suitor] == skill[rival] && suitor < rival;
        }

        private int firstHoping(int[] courting) {
            for (int s = 0; s < suitors; s++) {
                if (hopeOf(courting, s) != NONE) {
                    return s;
                }
            }
            return NONE;
        }

        /** Whether a suitor, if he courted a bride, had a step on a path in a year. */
        private boolean wouldStep(int suitor, int bride, int path, int year) {
            return bride >= 0 && bride < brides && bridePath[bride] == path && year >= brideYear[bride]
                && year <= brideYear[bride] + skill[suitor];
        }

        private boolean hasStep(int suitor, int path, int year) {
            return wouldStep(suitor, courts[suitor], path, year);
        }

        /** How many steps there are, without that of one suitor (NONE: of all). */
        private int stepsOn(int path, int year, int without) {
            int total = 0;
            for (int s = 0; s < suitors; s++) {
                if (s != without && hasStep(s, path, year)) {
                    total++;
                }
            }
            return total;
        }

        private int leapOf(int path, int year) {
            return roundedUp(dropOf(path), stepsOn(path, year, NONE) + 1);
        }

        private int lackingOn(int path, int year, int n) {
            return lacking(dropOf(path), stepsOn(path, year, NONE), n);
        }

        private int fallOf(int suitor, int year) {
            int fall = rain[year] + (isRefused(courts, suitor) ? spite[suitor] : 0);
            return Math.min(fall, HUNDRED);
        }

        /** What a chance (of CERTAIN) comes to along one path more. */
        private long safeAlong(long chance, int path, int year) {
            long left = chance;
            for (int s = 0; s < suitors; s++) {
                if (hasStep(s, path, year)) {
                    left = left / HUNDRED * (HUNDRED - fallOf(s, year));
                }
            }
            return left;
        }

        /** The paths that one who leaps so far can go, as bits, without the step of one suitor (NONE: with all). */
        private int openPaths(int leap, int year, int without) {
            int open = 0;
            for (int p = 0; p < paths; p++) {
                if (roundedUp(dropOf(p), stepsOn(p, year, without) + 1) <= leap) {
                    open |= 1 << p;
                }
            }
            return open;
        }

        private int placesFrom(int start, int open) {
            int here = 1 << start;
            for (int round = 0; round < places; round++) {
                int before = here;
                for (int p = 0; p < paths; p++) {
                    int ends = 1 << pathFrom[p] | 1 << pathTo[p];
                    if ((open >> p & 1) == 1 && (here & ends) != 0) {
                        here |= ends;
                    }
                }
                if (here == before) {
                    break;
                }
            }
            return here;
        }

        private int reachOf(int walker, int year, int without) {
            return placesFrom(walkerAt[walker], openPaths(walkerLeap[walker], year, without));
        }
    }

    /** Reads a MOUNTAIN's text, token by token, till its end or its first FAULT. */
    private static final class Reader {
        private byte[] text = new byte[0];
        private int length = 0;
        private int behind = 0;
        private int kind = KIND_END;
        private int start = 0;
        private int value = 0;
        private int fault = 0;
        private int faultPlace = NONE;

        /** Whether the text's first bytes tell a mountain without a fault; what is left in it otherwise is nothing. */
        private boolean readWhole(byte[] bytes, int size, Mountain into) {
            text = bytes;
            length = Math.min(size, bytes.length);
            behind = 0;
            fault = 0;
            faultPlace = NONE;
            into.clearAll();
            nextToken();
            // each line has bytes of its own, so that their number bounds the lines
            for (int i = 0; i < MAX_TAPE && kind != KIND_END; i++) {
                if (!readLine(into) || !takeSemicolon()) {
                    return false;
                }
                into.lines++;
            }
            return true;
        }

        private void nextToken() {
            start = behind;
            while (start < length && (text[start] == 32 || text[start] == 10)) {
                start++;
            }
            behind = start;
            value = 0;
            if (start >= length) {
                kind = KIND_END;
                return;
            }
            kind = text[start] == ';' ? KIND_SEMICOLON : KIND_OTHER;
            while (behind < length && text[behind] >= 'a' && text[behind] <= 'z') {
                kind = KIND_WORD;
                behind++;
            }
            while (kind != KIND_WORD && behind < length && text[behind] >= '0' && text[behind] <= '9') {
                kind = KIND_NUMBER;
                // above every bound it matters no more how far
                value = Math.min(value * 10 + text[behind] - '0', FAR);
                behind++;
            }
            // a sign, or a byte that is no token, has no length of its own yet
            behind = Math.max(behind, start + 1);
        }

        private boolean isWord(String word) {
            if (kind != KIND_WORD || behind - start != word.length()) {
                return false;
            }
            for (int i = 0; i < word.length(); i++) {
                if (text[start + i] != word.charAt(i)) {
                    return false;
                }
            }
            return true;
        }

        /** Notes a fault at the token that stands next. */
        private boolean failHere(int what) {
            fault = what;
            faultPlace = start;
            return false;
        }

        private boolean takeSemicolon() {
            if (kind != KIND_SEMICOLON) {
                return failHere(FAULT_TOKEN);
            }
            nextToken();
            return true;
        }

        private boolean takeWord(String word) {
            if (!isWord(word)) {
                return failHere(FAULT_TOKEN);
            }
            nextToken();
            return true;
        }

        /** The next token's number; NONE, and a fault, if it is none or not within the bounds. */
        private int takeNumber(int low, int high) {
            if (kind != KIND_NUMBER) {
                failHere(FAULT_TOKEN);
                return NONE;
            }
            if (value < low || value > high) {
                failHere(FAULT_NUMBER);
                return NONE;
            }
            int taken = value;
            nextToken();
            return taken;
        }

        private boolean readLine(Mountain m) {
            if (isWord("mountain")) {
                return m.lines == 0 ? readMountain(m) : failHere(FAULT_TOKEN);
            }
            if (m.lines == 0) {
                return failHere(FAULT_TOKEN);
            }
            if (isWord("height")) {
                return readHeight(m);
            }
            if (isWord("path")) {
                return m.paths < MAX_PATHS ? readPath(m) : failHere(FAULT_TOO_MANY);
            }
            if (isWord("bride")) {
                return m.brides < MAX_BRIDES ? readBride(m) : failHere(FAULT_TOO_MANY);
            }
            if (isWord("suitor")) {
                return m.suitors < MAX_SUITORS ? readSuitor(m) : failHere(FAULT_TOO_MANY);
            }
            if (isWord("rain")) {
                return readRain(m);
            }
            if (isWord("walker")) {
                return m.walkers < MAX_WALKERS ? readWalker(m) : failHere(FAULT_TOO_MANY);
            }
            return isWord("court") ? readCourt(m) : failHere(FAULT_TOKEN);
        }

        private boolean readMountain(Mountain m) {
            nextToken();
            int places = takeWord("places") ? takeNumber(2, MAX_PLACES) : NONE;
            if (places == NONE) {
                return false;
            }
            int years = takeWord("years") ? takeNumber(1, MAX_YEARS) : NONE;
            if (years == NONE) {
                return false;
            }
            m.places = places;
            m.years = years;
            return true;
        }

        private boolean readHeight(Mountain m) {
            nextToken();
            int place = takeNumber(0, m.places - 1);
            if (place == NONE) {
                return false;
            }
            int height = takeNumber(0, MAX_NUMBER);
            if (height == NONE) {
                return false;
            }
            m.heights[place] = height;
            return true;
        }

        private boolean readPath(Mountain m) {
            nextToken();
            int from = takeNumber(0, m.places - 1);
            if (from == NONE || !takeWord("to")) {
                return false;
            }
            if (kind == KIND_NUMBER && (value == from || m.pathBetween(from, value) != NONE)) {
                return failHere(FAULT_NUMBER);
            }
            int to = takeNumber(0, m.places - 1);
            if (to == NONE) {
                return false;
            }
            m.pathFrom[m.paths] = from;
            m.pathTo[m.paths] = to;
            m.paths++;
            return true;
        }

        private boolean readBride(Mountain m) {
            nextToken();
            int path = takeWord("path") ? takeNumber(0, m.paths - 1) : NONE;
            if (path == NONE) {
                return false;
            }
            int year = takeWord("in") ? takeNumber(0, m.years - 1) : NONE;
            if (year == NONE) {
                return false;
            }
            m.bridePath[m.brides] = path;
            m.brideYear[m.brides] = year;
            m.brides++;
            return true;
        }

        private boolean readSuitor(Mountain m) {
            nextToken();
            int skill = takeWord("skill") ? takeNumber(0, 30) : NONE;
            if (skill == NONE) {
                return false;
            }
            int spite = takeWord("spite") ? takeNumber(0, HUNDRED) : NONE;
            if (spite == NONE || !takeWord("for")) {
                return false;
            }
            int brides = takeBrides(m);
            if (brides == NONE) {
                return false;
            }
            m.skill[m.suitors] = skill;
            m.spite[m.suitors] = spite;
            m.forWhom[m.suitors] = brides;
            m.suitors++;
            return true;
        }

        /** One bride or more, unlike, as bits; NONE: there is a fault. */
        private int takeBrides(Mountain m) {
            int bits = 0;
            for (int i = 0; i <= MAX_BRIDES; i++) {
                if (i > 0 && kind != KIND_NUMBER) {
                    return bits;
                }
                if (kind == KIND_NUMBER && value < MAX_BRIDES && (bits >> value & 1) == 1) {
                    failHere(FAULT_NUMBER);
                    return NONE;
                }
                int bride = takeNumber(0, m.brides - 1);
                if (bride == NONE) {
                    return NONE;
                }
                bits |= 1 << bride;
            }
            return bits;
        }

        private boolean readRain(Mountain m) {
            nextToken();
            int year = takeNumber(0, m.years - 1);
            if (year == NONE) {
                return false;
            }
            int rain = takeWord("is") ? takeNumber(0, HUNDRED) : NONE;
            if (rain == NONE) {
                return false;
            }
            m.rain[year] = rain;
            return true;
        }

        private boolean readWalker(Mountain m) {
            nextToken();
            int leap = takeWord("leap") ? takeNumber(0, MAX_NUMBER) : NONE;
            if (leap == NONE) {
                return false;
            }
            int at = takeWord("at") ? takeNumber(0, m.places - 1) : NONE;
            if (at == NONE) {
                return false;
            }
            m.walkerLeap[m.walkers] = leap;
            m.walkerAt[m.walkers] = at;
            m.walkers++;
            return true;
        }

        private boolean readCourt(Mountain m) {
            nextToken();
            int suitor = takeNumber(0, m.suitors - 1);
            if (suitor == NONE) {
                return false;
            }
            if (kind == KIND_NUMBER && !m.isFor(suitor, value)) {
                return failHere(FAULT_NUMBER);
            }
            int bride = takeNumber(0, m.brides - 1);
            if (bride == NONE) {
                return false;
            }
            m.courts[suitor] = bride;
            return true;
        }
    }

    /** All ways of a walker to a place in a year: how many, the shortest, the safest. */
    private static final class Ways {
        private Mountain m = new Mountain();
        private int goal;
        private int year;
        private int open;
        private final int[] gone = new int[MAX_PLACES];
        private int total;
        private int shortLength;
        private final int[] shortRow = new int[MAX_PLACES];
        private int safeLength;
        private long safeChance;
        private final int[] safeRow = new int[MAX_PLACES];

        private void findAll(Mountain mountain, int walker, int to, int inYear) {
            m = mountain;
            goal = to;
            year = inYear;
            open = m.openPaths(m.walkerLeap[walker], year, NONE);
            total = 0;
            shortLength = NONE;
            safeLength = NONE;
            safeChance = -1;
            goOn(this, 0, m.walkerAt[walker], 0, CERTAIN);
        }

        /** Goes on to a place, as number depth of the row; ways come in the order of their rows, so the first of equals stays. */
        private static void goOn(Ways w, int depth, int place, int visited, long chance) {
            if (depth >= MAX_PLACES) {
                return;
            }
            w.gone[depth] = place;
            if (place == w.goal) {
                w.noteWay(depth + 1, chance);
                return;
            }
            int been = visited | 1 << place;
            for (int next = 0; next < w.m.places; next++) {
                if ((been >> next & 1) == 0) {
                    int path = w.m.pathBetween(place, next);
                    if (path != NONE && (w.open >> path & 1) == 1) {
                        goOn(w, depth + 1, next, been, w.m.safeAlong(chance, path, w.year));
                    }
                }
            }
        }

        private void noteWay(int length, long chance) {
            total++;
            if (shortLength == NONE || length < shortLength) {
                shortLength = length;
                copyRow(gone, shortRow);
            }
            if (chance > safeChance || chance == safeChance && length < safeLength) {
                safeChance = chance;
                safeLength = length;
                copyRow(gone, safeRow);
            }
        }
    }

    /** What is asked of a courting, told by counts of steps: packed into one long, so that a choice is one addition. */
    private abstract static class Condition {
        /** What a suitor adds to the counts if he courts a bride. */
        abstract long addedBy(Mountain m, int suitor, int bride);

        /** Whether it holds by no, by all or by some counts from the low ones to the high ones; never some, if these are alike. */
        abstract int judge(long low, long high);
    }

    /** That walkers can come to a place in a year; the counts are the steps of each path. */
    private static final class Coming extends Condition {
        private static final int MASKS = 1 << MAX_PATHS;
        private static final int COMES = 1;
        private static final int STAYS = 2;

        private Mountain m = new Mountain();
        private int firstWalker;
        private int walkerBehind;
        private int goal;
        private int year;
        /** By walkers and paths, how many steps he needs to go along it. */
        private final int[] needed = new int[MAX_WALKERS * MAX_PATHS];
        /** By walkers and open paths, what is known already of his coming. */
        private final byte[] known = new byte[MAX_WALKERS * MASKS];

        private void aimAt(Mountain mountain, int first, int behind, int to, int inYear) {
            m = mountain;
            firstWalker = first;
            walkerBehind = behind;
            goal = to;
            year = inYear;
            Arrays.fill(known, (byte) 0);
            for (int w = first; w < behind; w++) {
                for (int p = 0; p < m.paths; p++) {
                    int lacks = lacking(m.dropOf(p), 0, m.walkerLeap[w]);
                    needed[w * MAX_PATHS + p] = lacks == NONE ? FAR : lacks;
                }
            }
        }

        long addedBy(Mountain mountain, int suitor, int bride) {
            int path = mountain.bridePath[bride];
            return mountain.wouldStep(suitor, bride, path, year) ? 1L << path * COUNT_BITS : 0L;
        }

        int judge(long low, long high) {
            if (allCome(low)) {
                return HOLDS_BY_ALL;
            }
            return allCome(high) ? HOLDS_BY_SOME : HOLDS_BY_NONE;
        }

        private boolean allCome(long counts) {
            for (int w = firstWalker; w < walkerBehind; w++) {
                int open = 0;
                for (int p = 0; p < m.paths; p++) {
                    if ((counts >> p * COUNT_BITS & COUNT_MASK) >= needed[w * MAX_PATHS + p]) {
                        open |= 1 << p;
                    }
                }
                int at = w * MASKS + open;
                if (known[at] == 0) {
                    int here = m.placesFrom(m.walkerAt[w], open);
                    known[at] = (byte) ((here >> goal & 1) == 1 ? COMES : STAYS);
                }
                if (known[at] == STAYS) {
                    return false;
                }
            }
            return true;
        }
    }

    /** That all is as it was measured; the counts are the steps of each measure's path in its year. */
    private static final class Measuring extends Condition {
        private static final int MAX_MEASURES = MAX_ROW / MEASURE_NUMBERS;

        private int measures;
        private final int[] paths = new int[MAX_MEASURES];
        private final int[] years = new int[MAX_MEASURES];
        /** The fewest and the most steps that make the leap that was measured. */
        private final int[] fewestSteps = new int[MAX_MEASURES];
        private final int[] mostSteps = new int[MAX_MEASURES];

        private void takeOver(Mountain m, Slot row) {
            measures = Math.min(row.measures(), MAX_MEASURES);
            for (int i = 0; i < measures; i++) {
                paths[i] = row.pathOf(i);
                years[i] = row.yearOf(i);
                fewestSteps[i] = MAX_SUITORS + 1;
                mostSteps[i] = -1;
                for (int steps = MAX_SUITORS; steps >= 0; steps--) {
                    if (roundedUp(m.dropOf(paths[i]), steps + 1) == row.leapTold(i)) {
                        fewestSteps[i] = steps;
                        mostSteps[i] = Math.max(mostSteps[i], steps);
                    }
                }
            }
        }

        long addedBy(Mountain m, int suitor, int bride) {
            long added = 0L;
            for (int i = 0; i < measures; i++) {
                if (m.wouldStep(suitor, bride, paths[i], years[i])) {
                    added |= 1L << i * COUNT_BITS;
                }
            }
            return added;
        }

        int judge(long low, long high) {
            boolean always = true;
            for (int i = 0; i < measures; i++) {
                int least = (int) (low >> i * COUNT_BITS & COUNT_MASK);
                int greatest = (int) (high >> i * COUNT_BITS & COUNT_MASK);
                if (least > mostSteps[i] || greatest < fewestSteps[i]) {
                    return HOLDS_BY_NONE;
                }
                always = always && least >= fewestSteps[i] && greatest <= mostSteps[i];
            }
            return always ? HOLDS_BY_ALL : HOLDS_BY_SOME;
        }
    }

    /** Goes through all courtings, in their order, and keeps of those by which a condition holds what is asked later. */
    private static final class Search {
        private static final int CHOICES = MAX_BRIDES + 1;

        private int suitors;
        /** By suitors, his choices as bits: 0 nobody, 1 bride 0, and so on. */
        private final int[] choices = new int[MAX_SUITORS];
        private final long[] adds = new long[MAX_SUITORS * CHOICES];
        /** By how many suitors have chosen: what the others can add at most, and in how many ways they can choose. */
        private final long[] most = new long[MAX_SUITORS + 1];
        private final int[] completions = new int[MAX_SUITORS + 1];
        private final int[] pick = new int[MAX_SUITORS];
        private int total;
        private int fewestHearts;
        private int fewestBusy;
        private final int[] first = new int[MAX_SUITORS];
        private final int[] seen = new int[MAX_SUITORS];

        private void seek(Mountain m, Condition condition) {
            suitors = m.suitors;
            total = 0;
            fewestHearts = NONE;
            fewestBusy = NONE;
            Arrays.fill(first, NONE);
            Arrays.fill(seen, 0);
            most[suitors] = 0L;
            completions[suitors] = 1;
            for (int s = suitors - 1; s >= 0; s--) {
                choices[s] = m.forWhom[s] << 1 | 1;
                most[s] = most[s + 1] + addsOf(m, condition, s);
                completions[s] = completions[s + 1] * Integer.bitCount(choices[s]);
            }
            chooseOn(this, condition, 0, 0L, 0, 0);
        }

        /** Fills in what each choice of a suitor adds: the most that he can add to each count. */
        private long addsOf(Mountain m, Condition condition, int suitor) {
            long atMost = 0L;
            adds[suitor * CHOICES] = 0L;
            for (int b = 0; b < m.brides; b++) {
                if (m.isFor(suitor, b)) {
                    long added = condition.addedBy(m, suitor, b);
                    adds[suitor * CHOICES + b + 1] = added;
                    // a choice adds one at most to each count, so the joined bits are the counts' maxima
                    atMost |= added;
                }
            }
            return atMost;
        }

        private static void chooseOn(Search a, Condition condition, int depth, long counts, int courted, int busy) {
            if (depth > a.suitors) {
                return;
            }
            int verdict = condition.judge(counts, counts + a.most[depth]);
            if (verdict == HOLDS_BY_ALL) {
                a.noteAll(depth, courted, busy);
            }
            if (verdict != HOLDS_BY_SOME || depth == a.suitors) {
                return;
            }
            for (int choice = 0; choice < CHOICES; choice++) {
                if ((a.choices[depth] >> choice & 1) == 1) {
                    a.pick[depth] = choice;
                    long sum = counts + a.adds[depth * CHOICES + choice];
                    if (choice == 0) {
                        chooseOn(a, condition, depth + 1, sum, courted, busy);
                    } else {
                        chooseOn(a, condition, depth + 1, sum, courted | 1 << choice, busy + 1);
                    }
                }
            }
        }

        /** The first suitors have chosen, and it holds however the others choose: of these the first, nobody for each, has fewest hearts. */
        private void noteAll(int chosen, int courted, int busy) {
            int hearts = busy - Integer.bitCount(courted);
            boolean fewer = fewestHearts == NONE || hearts < fewestHearts;
            total += completions[chosen];
            fewestBusy = fewestBusy == NONE ? busy : Math.min(fewestBusy, busy);
            fewestHearts = fewer ? hearts : fewestHearts;
            for (int s = 0; s < suitors; s++) {
                seen[s] |= s < chosen ? 1 << pick[s] : choices[s];
                if (fewer) {
                    first[s] = s < chosen ? pick[s] - 1 : NONE;
                }
            }
        }

        private int sameByAll(int suitor) {
            for (int choice = 0; choice < CHOICES; choice++) {
                if (seen[suitor] == 1 << choice) {
                    return choice == 0 ? NOBODY_AT_ALL : choice - 1;
                }
            }
            return NONE;
        }
    }

    /** A SLOT: a row of numbers of a width, or nothing (its length NONE). */
    private static final class Slot {
        private int width = 0;
        private int length = NONE;
        private final long[] numbers = new long[MAX_ROW];

        /** Whether so many numbers from one on are within the row. */
        private boolean holds(int from, int n) {
            return from >= 0 && n >= 0 && (long) from + n <= length;
        }

        private int measures() {
            return length / MEASURE_NUMBERS;
        }

        private long numberAt(int i) {
            return i >= 0 && i < numbers.length ? numbers[i] : NONE;
        }

        private int pathOf(int measure) {
            return (int) numberAt(measure * MEASURE_NUMBERS);
        }

        private int yearOf(int measure) {
            return (int) numberAt(measure * MEASURE_NUMBERS + 1);
        }

        private long leapTold(int measure) {
            return numberAt(measure * MEASURE_NUMBERS + 2);
        }

        private boolean isMeasured(Mountain m) {
            if (length % MEASURE_NUMBERS != 0) {
                return false;
            }
            for (int i = 0; i < measures(); i++) {
                long path = numberAt(i * MEASURE_NUMBERS);
                long year = numberAt(i * MEASURE_NUMBERS + 1);
                if (path < 0 || path >= m.paths || year < 0 || year >= m.years) {
                    return false;
                }
            }
            return true;
        }
    }
}
