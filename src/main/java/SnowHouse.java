import java.util.Arrays;

/** A house of snow, as ../shared/DOC.md tells it: every call answers a number and none ever throws. */
public final class SnowHouse {
    public static final int BAD = -1, FULL = -2, FINDING = -3, STATE = -4, SPENT = -6, NONE = -9;

    private static final int NOTHING = 1, BEYOND = 2, UNLIKE = 3, NOUGHT = 4, SIZE = 5;
    private static final int FINDINGS = 5;

    private static final int ROWS = 6, ROW_MOST = 60, TEXTS = 4, TEXT_MOST = 80;
    private static final int SNOWS = 4, PLANS = 4, KEEPS = 3;
    private static final int COURSES_MOST = 8, COURSE_MOST = 12, BLOCKS_MOST = 60;
    private static final int LEAN_MOST = 9, MINUTES_MOST = 9, COLD_MOST = 40, SLIP_MOST = 90;
    private static final int STORM_MOST = 600, GUESTS_MOST = 6, FEAST_MOST = 40;
    private static final int LAYERS = 6, TOP = 5, HOURS_MOST = 48, DAYS_MOST = 60, AMOUNT_MOST = 9;

    private static final int GRAIN = 0, RUB = 1, COLD = 2, HEAVY = 3, WORTHS = 4;
    private static final int RING = 1, SPIRAL = 2;
    private static final int FIRST = 1, RAMPED = 2, LEANING = 3, KEY = 4, CUT = 5, SLUMPED = 6;
    private static final int UNLAID = 0, SOUND = 1, FALLEN = 2, GONE = 3;

    private static final int BLANK = 32, ZERO = 48, COLON = 58;
    private static final int LETTER_M = 109, LETTER_R = 114, LETTER_S = 115;

    private static final int[] WORTH_LETTERS = {103, 114, 99, 119};
    private static final int[] WORTH_LEAST = {1, 0, 0, 1};
    private static final int[] WORTH_MOST = {30, 9, 40, 9};
    private static final int[] WORTH_USUAL = {12, 4, 20, 3};

    private final int[][] rows;
    private final int[] rowSizes;
    private final byte[][] texts;
    private final int[] textSizes;
    private final Snow[] snows;
    private final Plan[] plans;
    private final Build home;
    private final Build[] keeps;
    private final Build trial;
    private final Reader reader;
    private final Indoors indoors;
    private final Wall wall;
    private final Feast feast;
    private int told;
    private long top;
    private long bottom;
    private int latest;
    private final int[] tallies;

    public SnowHouse() {
        rows = new int[ROWS][ROW_MOST];
        rowSizes = new int[ROWS];
        Arrays.fill(rowSizes, -1);
        texts = new byte[TEXTS][TEXT_MOST];
        textSizes = new int[TEXTS];
        Arrays.fill(textSizes, -1);
        snows = new Snow[SNOWS];
        for (int k = 0; k < SNOWS; k++) snows[k] = new Snow();
        plans = new Plan[PLANS];
        for (int k = 0; k < PLANS; k++) plans[k] = new Plan();
        home = new Build();
        keeps = new Build[KEEPS];
        for (int k = 0; k < KEEPS; k++) keeps[k] = new Build();
        trial = new Build();
        reader = new Reader();
        indoors = new Indoors();
        wall = new Wall();
        feast = new Feast();
        told = 0;
        top = 0;
        bottom = 1;
        latest = 0;
        tallies = new int[FINDINGS + 1];
    }

    // ---- 1 rows, texts, snows, plans

    public int row(int r, int n) {
        if (!isBelow(r, ROWS) || n > ROW_MOST) return BAD;
        if (n < 0) return found(SIZE);
        Arrays.fill(rows[r], 0);
        rowSizes[r] = n;
        return n;
    }

    public int lay(int r, int i, int v) {
        if (!isBelow(r, ROWS)) return BAD;
        if (rowSizes[r] < 0) return found(NOTHING);
        if (!isBelow(i, rowSizes[r])) return found(BEYOND);
        int was = rows[r][i];
        rows[r][i] = v;
        return tell(was);
    }

    public int at(int r, int i) {
        if (!isBelow(r, ROWS)) return BAD;
        if (rowSizes[r] < 0) return found(NOTHING);
        if (!isBelow(i, rowSizes[r])) return found(BEYOND);
        return tell(rows[r][i]);
    }

    public int tear(int r) {
        if (!isBelow(r, ROWS)) return BAD;
        if (rowSizes[r] < 0) return found(NOTHING);
        rowSizes[r] = -1;
        return 1;
    }

    public int copy(int r, int i, int to, int j, int n) {
        if (!isBelow(r, ROWS) || !isBelow(to, ROWS)) return BAD;
        if (n < 0) return found(SIZE);
        if (rowSizes[r] < 0 || rowSizes[to] < 0) return found(NOTHING);
        if (!hasPlaces(rowSizes[r], i, n) || !hasPlaces(rowSizes[to], j, n)) return found(BEYOND);
        System.arraycopy(rows[r], i, rows[to], j, n);
        return 1;
    }

    public int mean(int r) {
        if (!isBelow(r, ROWS)) return BAD;
        int size = rowSizes[r];
        if (size < 0) return found(NOTHING);
        if (size == 0) return found(NOUGHT);
        long sum = 0;
        for (int i = 0; i < size; i++) sum += rows[r][i];
        return tell((int) (sum / size));
    }

    public int text(int t, int n) {
        if (!isBelow(t, TEXTS) || n > TEXT_MOST) return BAD;
        if (n < 0) return found(SIZE);
        Arrays.fill(texts[t], (byte) BLANK);
        textSizes[t] = n;
        return n;
    }

    public int put(int t, int i, int v) {
        if (!isBelow(t, TEXTS)) return BAD;
        if (textSizes[t] < 0) return found(NOTHING);
        if (!isBelow(i, textSizes[t])) return found(BEYOND);
        int was = texts[t][i];
        texts[t][i] = (byte) v;
        return was + 1000;
    }

    public int fault(int t, boolean plan) {
        if (!isBelow(t, TEXTS)) return BAD;
        if (textSizes[t] < 0) return found(NOTHING);
        return plan ? reader.readPlan(texts[t], textSizes[t]) : reader.readSnow(texts[t], textSizes[t]);
    }

    public int snow(int k, int t) {
        if (!isBelow(k, SNOWS) || !isBelow(t, TEXTS)) return BAD;
        if (textSizes[t] < 0) return found(NOTHING);
        if (reader.readSnow(texts[t], textSizes[t]) != NONE) return STATE;
        snows[k].takeFrom(reader.snow);
        return reader.items;
    }

    public int plan(int k, int t) {
        if (!isBelow(k, PLANS) || !isBelow(t, TEXTS)) return BAD;
        if (textSizes[t] < 0) return found(NOTHING);
        if (reader.readPlan(texts[t], textSizes[t]) != NONE) return STATE;
        plans[k].takeFrom(reader.plan);
        return plans[k].blocks;
    }

    public int about(int k, int what) {
        if (!isBelow(k, SNOWS) || !isBelow(what, WORTHS)) return BAD;
        if (!snows[k].there) return found(NOTHING);
        return tell(snows[k].worths[what]);
    }

    public int tells(int k, int what) {
        if (!isBelow(k, PLANS) || !isBelow(what, 4)) return BAD;
        if (!plans[k].there) return found(NOTHING);
        return tell(plans[k].fact(what));
    }

    public int course(int k, int y) {
        if (!isBelow(k, PLANS)) return BAD;
        if (!plans[k].there) return found(NOTHING);
        if (!isBelow(y, plans[k].courses)) return found(BEYOND);
        told = plans[k].sizeAndLean(y);
        return plans[k].forms[y];
    }

    // ---- 2 houses

    public int house(int snow, int plan, int builders) {
        if (!isBelow(snow, SNOWS) || !isBelow(plan, PLANS) || !areBuilders(builders)) return BAD;
        if (!snows[snow].there || !plans[plan].there) return found(NOTHING);
        home.begin(snows[snow], plans[plan], builders);
        return home.plan.blocks;
    }

    public int go(int n) {
        if (!isUpTo(n, BLOCKS_MOST)) return BAD;
        if (!home.there) return STATE;
        if (home.laid + n > home.plan.blocks) return SPENT;
        for (int b = 0; b < n; b++) home.layNext();
        return home.laid;
    }

    public int block(int i, int what) {
        if (!isLaid(i) || !isBelow(what, 5)) return BAD;
        return tell(home.fact(i, what));
    }

    public int pull(int i) {
        if (!isLaid(i)) return BAD;
        told = home.holdOf(i);
        return home.pullOf(i);
    }

    public int mark(int i, int kind) {
        if (!isLaid(i) || kind < FIRST || kind > SLUMPED) return BAD;
        if (!home.isOf(i, kind)) return found(UNLIKE);
        return home.markOf(i, kind);
    }

    public int door(int p) {
        if (!isBelow(p, COURSE_MOST)) return BAD;
        if (!home.there || home.laid < home.plan.blocks || home.cut >= 0) return STATE;
        if (p >= home.plan.sizes[0]) return BAD;
        if (home.states[p] == FALLEN) return found(UNLIKE);
        home.cutOut(p);
        return home.fallen;
    }

    public int keep(int k) {
        if (!isBelow(k, KEEPS)) return BAD;
        if (!home.there) return STATE;
        keeps[k].takeFrom(home);
        return home.laid;
    }

    public int on(int k) {
        if (!isBelow(k, KEEPS)) return BAD;
        if (!keeps[k].there) return found(NOTHING);
        home.takeFrom(keeps[k]);
        return home.laid;
    }

    public int slumped() {
        if (!home.there) return STATE;
        told = home.firstFallen();
        return home.fallen;
    }

    // ---- 3 whether it stands, slips, forms

    public int falls() {
        if (!home.there) return STATE;
        trial.takeFrom(home);
        if (trial.raise(0) == 0) return NONE;
        told = trial.firstFallen();
        return trial.laid - 1;
    }

    public int pace(int v) {
        if (v < 1 || v > MINUTES_MOST) return BAD;
        if (!home.there) return STATE;
        trial.takeFrom(home);
        trial.plan.minutes = v;
        return trial.raise(BLOCKS_MOST);
    }

    public int lean(int y) {
        if (!isBelow(y, COURSES_MOST)) return BAD;
        if (!home.there) return STATE;
        if (y >= home.plan.courses) return found(BEYOND);
        trial.takeFrom(home);
        for (int l = LEAN_MOST; l >= 0; l--) {
            trial.plan.leans[y] = l;
            if (trial.raise(0) == 0) return l;
        }
        return NONE;
    }

    public int slow() {
        if (!home.there) return STATE;
        int minutes = leastMinutes();
        if (minutes != NONE) told = leastCold();
        return minutes;
    }

    public int spiral() {
        if (!home.there) return STATE;
        trial.takeFrom(home);
        int best = 0;
        int fewest = BLOCKS_MOST + 1;
        int sets = 1 << home.plan.courses;
        for (int bits = 0; bits < sets && fewest > 0; bits++) {
            trial.bend(bits);
            int fallen = trial.raise(fewest - 1);
            if (fallen < fewest) {
                fewest = fallen;
                best = bits;
            }
        }
        told = fewest;
        return best;
    }

    public int fell(int r) {
        if (!isBelow(r, ROWS)) return BAD;
        if (!home.there) return STATE;
        if (rowSizes[r] < 0) return found(NOTHING);
        if (rowSizes[r] != home.plan.blocks) return found(SIZE);
        int ones = onesOf(r);
        if (ones < 0) return found(UNLIKE);
        trial.takeFrom(home);
        int first = NONE;
        int slips = 0;
        for (int s = 0; s <= SLIP_MOST; s++) {
            if (!trial.plan.slipFrom(home.plan, s)) continue;
            if (trial.raise(ones) != ones || !trial.fellAs(rows[r])) continue;
            if (slips == 0) first = s;
            slips++;
        }
        if (slips > 0) told = slips;
        return first;
    }

    public int odds() {
        if (!home.there) return STATE;
        trial.takeFrom(home);
        int slips = 0;
        int stand = 0;
        for (int s = 0; s <= SLIP_MOST; s++) {
            if (!trial.plan.slipFrom(home.plan, s)) continue;
            slips++;
            if (trial.raise(0) == 0) stand++;
        }
        tellPart(stand, slips);
        return slips;
    }

    public int storm(int snow, int builders, int t, int n) {
        if (!isBelow(snow, SNOWS) || !areBuilders(builders)) return BAD;
        if (!isUpTo(t, STORM_MOST) || !isUpTo(n, GUESTS_MOST)) return BAD;
        if (!snows[snow].there || plansThere() == 0) return found(NOTHING);
        int best = NONE;
        int fewest = BLOCKS_MOST + 1;
        for (int k = 0; k < PLANS; k++) {
            Plan plan = plans[k];
            if (!plan.there || plan.blocks >= fewest) continue;
            if (plan.sleepers() < n || plan.minutesBy(builders) > t) continue;
            trial.begin(snows[snow], plan, builders);
            if (trial.raise(0) > 0) continue;
            best = k;
            fewest = plan.blocks;
        }
        if (best != NONE) told = plans[best].minutesBy(builders);
        return best;
    }

    public int halls(int snow, int n, int r) {
        if (!isBelow(snow, SNOWS) || n < 1 || n > FEAST_MOST || !isBelow(r, ROWS)) return BAD;
        if (!snows[snow].there || plansThere() == 0) return found(NOTHING);
        feast.clear();
        for (int k = PLANS - 1; k >= 0; k--) {
            boolean stands = false;
            if (plans[k].there) {
                trial.begin(snows[snow], plans[k], 1);
                stands = trial.raise(0) == 0;
            }
            feast.offer(k, stands ? plans[k].sleepers() : 0, plans[k].blocks);
        }
        int fewest = feast.leastFor(n);
        if (fewest == NONE) return NONE;
        Arrays.fill(rows[r], 0);
        rowSizes[r] = PLANS;
        feast.share(n, rows[r]);
        return fewest;
    }

    public int quarry(int k) {
        if (!isBelow(k, PLANS)) return BAD;
        if (!plans[k].there) return found(NOTHING);
        int floor = plans[k].sizes[0] * plans[k].sizes[0] / 4;
        told = Math.max(0, plans[k].blocks - floor);
        return floor;
    }

    // ---- 4 indoors, walls

    public int air(int snow, int lamp, int people, int hole, int low, int n) {
        if (!isBelow(snow, SNOWS) || !isUpTo(lamp, AMOUNT_MOST) || !isUpTo(people, AMOUNT_MOST)) return BAD;
        if (!isUpTo(hole, AMOUNT_MOST) || !isUpTo(low, 1) || !isUpTo(n, HOURS_MOST)) return BAD;
        if (!snows[snow].there) return found(NOTHING);
        indoors.enter(snows[snow].worths[COLD], lamp, people, hole, low == 1);
        for (int h = 0; h < n; h++) indoors.hour();
        told = indoors.layers[TOP];
        return indoors.breath;
    }

    public int layer(int snow, int lamp, int people, int hole, int n, int layer) {
        if (!isBelow(snow, SNOWS) || !isUpTo(lamp, AMOUNT_MOST) || !isUpTo(people, AMOUNT_MOST)) return BAD;
        if (!isUpTo(hole, AMOUNT_MOST) || !isUpTo(n, HOURS_MOST) || !isBelow(layer, LAYERS)) return BAD;
        if (!snows[snow].there) return found(NOTHING);
        indoors.enter(snows[snow].worths[COLD], lamp, people, hole, true);
        for (int h = 0; h < n; h++) indoors.hour();
        return tell(indoors.layers[layer]);
    }

    public int hole(int snow, int lamp, int people) {
        if (!isBelow(snow, SNOWS) || !isUpTo(lamp, AMOUNT_MOST) || !isUpTo(people, AMOUNT_MOST)) return BAD;
        if (!snows[snow].there) return found(NOTHING);
        for (int hole = 0; hole <= AMOUNT_MOST; hole++) {
            indoors.enter(snows[snow].worths[COLD], lamp, people, hole, true);
            if (!indoors.breathes()) continue;
            told = indoors.layers[TOP];
            return hole;
        }
        return NONE;
    }

    public int drips(int snow, int people, int hole) {
        if (!isBelow(snow, SNOWS) || !isUpTo(people, AMOUNT_MOST) || !isUpTo(hole, AMOUNT_MOST)) return BAD;
        if (!snows[snow].there) return found(NOTHING);
        for (int lamp = AMOUNT_MOST; lamp >= 0; lamp--) {
            indoors.enter(snows[snow].worths[COLD], lamp, people, hole, true);
            int thawed = indoors.thawedHours();
            if (thawed == NONE) continue;
            told = thawed;
            return lamp;
        }
        return NONE;
    }

    public int lasts(int lamp, int wind, int s) {
        if (!isUpTo(lamp, AMOUNT_MOST) || !isUpTo(wind, AMOUNT_MOST) || !isUpTo(s, AMOUNT_MOST)) return BAD;
        int days = wall.daysOf(lamp, wind, s);
        told = wall.sagAtLast;
        return days;
    }

    public int scrape(int lamp, int wind) {
        if (!isUpTo(lamp, AMOUNT_MOST) || !isUpTo(wind, AMOUNT_MOST)) return BAD;
        int best = 0;
        int longest = -1;
        for (int s = 0; s <= AMOUNT_MOST; s++) {
            int days = wall.daysOf(lamp, wind, s);
            if (days > longest) {
                longest = days;
                best = s;
            }
        }
        told = longest;
        return best;
    }

    // ---- 5 what is told

    public int asked() {
        return told;
    }

    public long upper() {
        return top;
    }

    public long lower() {
        return bottom;
    }

    public int count(int what) {
        return isBelow(what, 8) ? counted(what) : BAD;
    }

    public int finding() {
        return latest;
    }

    public int findings(int f) {
        return f < 1 || f > FINDINGS ? BAD : tallies[f];
    }

    public long digest() {
        long h = 17;
        for (int what = 0; what < 8; what++) h = 31 * h + counted(what);
        for (int k = 0; k < SNOWS; k++) h = snows[k].mixInto(h);
        for (int k = 0; k < PLANS; k++) h = plans[k].mixInto(h);
        h = home.mixInto(h);
        for (int r = 0; r < ROWS; r++) {
            h = 31 * h + rowSizes[r];
            for (int i = 0; i < rowSizes[r]; i++) h = 31 * h + rows[r][i];
        }
        for (int t = 0; t < TEXTS; t++) {
            h = 31 * h + textSizes[t];
            for (int i = 0; i < textSizes[t]; i++) h = 31 * h + texts[t][i];
        }
        return h;
    }

    // ---- what the calls share

    private static boolean isBelow(int i, int n) {
        return i >= 0 && i < n;
    }

    private static boolean isUpTo(int v, int most) {
        return v >= 0 && v <= most;
    }

    private static boolean areBuilders(int n) {
        return n == 1 || n == 2;
    }

    /** Takes n from size, rather than adding it to i: that sum could run over. */
    private static boolean hasPlaces(int size, int i, int n) {
        return i >= 0 && n <= size && i <= size - n;
    }

    private boolean isLaid(int i) {
        return home.there && isBelow(i, home.laid);
    }

    private int found(int f) {
        latest = f;
        if (isUpTo(f, FINDINGS)) tallies[f]++;
        return FINDING;
    }

    private int tell(int v) {
        told = v;
        return 1;
    }

    private void tellPart(int part, int whole) {
        long a = part;
        long b = whole;
        for (int step = 0; step < 64 && b != 0; step++) {
            long rest = a % b;
            a = b;
            b = rest;
        }
        if (a <= 0) a = 1;
        top = part / a;
        bottom = whole / a;
    }

    /** How many 1 a ROW has; -1, if it has anything but 1 and 0. */
    private int onesOf(int r) {
        int ones = 0;
        for (int i = 0; i < rowSizes[r]; i++) {
            if (!isUpTo(rows[r][i], 1)) return -1;
            ones += rows[r][i];
        }
        return ones;
    }

    private int leastMinutes() {
        trial.takeFrom(home);
        for (int v = 1; v <= MINUTES_MOST; v++) {
            trial.plan.minutes = v;
            if (trial.raise(0) == 0) return v;
        }
        return NONE;
    }

    private int leastCold() {
        trial.takeFrom(home);
        for (int v = 0; v <= COLD_MOST; v++) {
            trial.snow.worths[COLD] = v;
            if (trial.raise(0) == 0) return v;
        }
        return NONE;
    }

    private int plansThere() {
        int there = 0;
        for (int k = 0; k < PLANS; k++) if (plans[k].there) there++;
        return there;
    }

    private int snowsThere() {
        int there = 0;
        for (int k = 0; k < SNOWS; k++) if (snows[k].there) there++;
        return there;
    }

    private int kept() {
        int there = 0;
        for (int k = 0; k < KEEPS; k++) if (keeps[k].there) there++;
        return there;
    }

    private static int sizesThere(int[] sizes) {
        int there = 0;
        for (int i = 0; i < sizes.length; i++) if (sizes[i] >= 0) there++;
        return there;
    }

    private int counted(int what) {
        switch (what) {
            case 0: return snowsThere();
            case 1: return plansThere();
            case 2: return home.laid;
            case 3: return home.fallen;
            case 4: return home.standingFirsts();
            case 5: return kept();
            case 6: return sizesThere(rowSizes);
            default: return sizesThere(textSizes);
        }
    }

    /** GRAIN, RUB, COLD, HEAVY of a drift. */
    private static final class Snow {
        boolean there;
        final int[] worths = new int[WORTHS];

        void takeFrom(Snow other) {
            there = other.there;
            System.arraycopy(other.worths, 0, worths, 0, WORTHS);
        }

        long mixInto(long h) {
            if (!there) return 31 * h - 1;
            for (int what = 0; what < WORTHS; what++) h = 31 * h + worths[what];
            return h;
        }
    }

    /** COURSES from below, and the MINUTES for a BLOCK. */
    private static final class Plan {
        boolean there;
        int courses;
        int blocks;
        int minutes;
        final int[] forms = new int[COURSES_MOST];
        final int[] sizes = new int[COURSES_MOST];
        final int[] leans = new int[COURSES_MOST];

        void clear() {
            there = true;
            courses = 0;
            blocks = 0;
            minutes = 2;
        }

        void addCourse(int form, int size, int lean) {
            if (courses >= COURSES_MOST) return;
            forms[courses] = form;
            sizes[courses] = size;
            leans[courses] = lean;
            courses++;
            blocks += size;
        }

        void takeFrom(Plan other) {
            there = other.there;
            courses = other.courses;
            blocks = other.blocks;
            minutes = other.minutes;
            System.arraycopy(other.forms, 0, forms, 0, COURSES_MOST);
            System.arraycopy(other.sizes, 0, sizes, 0, COURSES_MOST);
            System.arraycopy(other.leans, 0, leans, 0, COURSES_MOST);
        }

        int sleepers() {
            return sizes[0] / 2;
        }

        int minutesBy(int builders) {
            int alone = minutes * blocks;
            return builders == 2 ? (alone + 1) / 2 : alone;
        }

        int sizeAndLean(int y) {
            return isBelow(y, courses) ? 10 * sizes[y] + leans[y] : 0;
        }

        int fact(int what) {
            switch (what) {
                case 0: return courses;
                case 1: return minutes;
                case 2: return blocks;
                default: return sleepers();
            }
        }

        /** Is that PLAN with SLIP s in it; false, if there is no such SLIP. */
        boolean slipFrom(Plan sound, int s) {
            takeFrom(sound);
            if (s == 80 || s == 90) {
                minutes += s == 80 ? -1 : 1;
                return minutes >= 1 && minutes <= MINUTES_MOST;
            }
            int y = s / 10;
            int how = s % 10;
            if (!isBelow(y, courses) || !isUpTo(how, 2)) return false;
            leans[y] += how == 2 ? -1 : how + 1;
            return isUpTo(leans[y], LEAN_MOST);
        }

        long mixInto(long h) {
            if (!there) return 31 * h - 1;
            for (int what = 0; what < 4; what++) h = 31 * h + fact(what);
            for (int y = 0; y < courses; y++) {
                h = 31 * h + forms[y];
                h = 31 * h + sizeAndLean(y);
            }
            return h;
        }
    }

    /** Reads a TEXT as a SNOW or a PLAN of its own, so that one with a FAULT spoils nothing. */
    private static final class Reader {
        final Snow snow = new Snow();
        final Plan plan = new Plan();
        int items;
        private byte[] signs = new byte[0];
        private int size;
        private int place;
        private int number;

        int readSnow(byte[] text, int length) {
            open(text, length);
            snow.there = true;
            System.arraycopy(WORTH_USUAL, 0, snow.worths, 0, WORTHS);
            for (int item = 0; item <= TEXT_MOST && comesMore(); item++) {
                if (!readWorth()) return place;
            }
            return NONE;
        }

        int readPlan(byte[] text, int length) {
            open(text, length);
            plan.clear();
            for (int item = 0; item <= TEXT_MOST && comesMore(); item++) {
                boolean fits = sign() == LETTER_M ? readMinutes() : readCourse();
                if (!fits) return place;
            }
            return plan.courses == 0 ? size : NONE;
        }

        private void open(byte[] text, int length) {
            signs = text;
            size = Math.min(length, text.length);
            place = 0;
            items = 0;
        }

        private boolean comesMore() {
            while (place < size && sign() == BLANK) place++;
            return place < size;
        }

        /** The sign at the place; behind the end -1, which no item has. */
        private int sign() {
            return isBelow(place, size) ? signs[place] : -1;
        }

        private boolean isFigure() {
            int sign = sign();
            return sign >= ZERO && sign <= ZERO + 9;
        }

        private boolean readNumber() {
            if (!isFigure()) return false;
            number = sign() - ZERO;
            place++;
            if (isFigure()) {
                number = 10 * number + sign() - ZERO;
                place++;
            }
            return true;
        }

        private boolean readSign(int wanted) {
            if (sign() != wanted) return false;
            place++;
            return true;
        }

        private boolean readWorth() {
            int what = 0;
            while (what < WORTHS && WORTH_LETTERS[what] != sign()) what++;
            if (what >= WORTHS) return false;
            place++;
            if (!readNumber()) return false;
            if (number < WORTH_LEAST[what] || number > WORTH_MOST[what]) return false;
            snow.worths[what] = number;
            items++;
            return true;
        }

        private boolean readMinutes() {
            place++;
            if (!readSign(COLON)) return false;
            if (!isFigure() || sign() == ZERO) return false;
            plan.minutes = sign() - ZERO;
            place++;
            return true;
        }

        private boolean readCourse() {
            int letter = sign();
            if (letter != LETTER_R && letter != LETTER_S) return false;
            if (plan.courses >= COURSES_MOST) return false;
            place++;
            if (!readNumber()) return false;
            if (number < 1 || number > COURSE_MOST || plan.blocks + number > BLOCKS_MOST) return false;
            if (!readSign(COLON) || !isFigure()) return false;
            plan.addCourse(letter == LETTER_R ? RING : SPIRAL, number, sign() - ZERO);
            place++;
            return true;
        }
    }

    /** A HOUSE: its BLOCKS, where each lies, what lies on it, and what became of it. */
    private static final class Build {
        boolean there;
        final Snow snow = new Snow();
        final Plan plan = new Plan();
        int builders;
        int laid;
        int fallen;
        int cut = -1;
        final int[] states = new int[BLOCKS_MOST];
        private final int[] fallMoments = new int[BLOCKS_MOST];
        private final int[] loads = new int[BLOCKS_MOST];
        private final int[] lost = new int[COURSES_MOST];
        private final int[] starts = new int[COURSES_MOST];
        private final int[] courseOf = new int[BLOCKS_MOST];
        private final int[] firstRests = new int[BLOCKS_MOST];
        private final int[] nextRests = new int[BLOCKS_MOST];
        private final int[] before = new int[BLOCKS_MOST];
        private final int[] behind = new int[BLOCKS_MOST];

        void begin(Snow ofSnow, Plan byPlan, int byBuilders) {
            there = true;
            snow.takeFrom(ofSnow);
            plan.takeFrom(byPlan);
            builders = byBuilders;
            measure();
            clear();
        }

        void takeFrom(Build other) {
            there = other.there;
            snow.takeFrom(other.snow);
            plan.takeFrom(other.plan);
            builders = other.builders;
            laid = other.laid;
            fallen = other.fallen;
            cut = other.cut;
            System.arraycopy(other.lost, 0, lost, 0, COURSES_MOST);
            System.arraycopy(other.starts, 0, starts, 0, COURSES_MOST);
            System.arraycopy(other.states, 0, states, 0, BLOCKS_MOST);
            System.arraycopy(other.fallMoments, 0, fallMoments, 0, BLOCKS_MOST);
            System.arraycopy(other.loads, 0, loads, 0, BLOCKS_MOST);
            System.arraycopy(other.courseOf, 0, courseOf, 0, BLOCKS_MOST);
            System.arraycopy(other.firstRests, 0, firstRests, 0, BLOCKS_MOST);
            System.arraycopy(other.nextRests, 0, nextRests, 0, BLOCKS_MOST);
            System.arraycopy(other.before, 0, before, 0, BLOCKS_MOST);
            System.arraycopy(other.behind, 0, behind, 0, BLOCKS_MOST);
        }

        private void clear() {
            laid = 0;
            fallen = 0;
            cut = -1;
            Arrays.fill(states, UNLAID);
            Arrays.fill(fallMoments, NONE);
            Arrays.fill(loads, 0);
            Arrays.fill(lost, 0);
        }

        private void measure() {
            int start = 0;
            for (int y = 0; y < plan.courses; y++) {
                starts[y] = start;
                for (int p = 0; p < plan.sizes[y] && start + p < BLOCKS_MOST; p++) {
                    courseOf[start + p] = y;
                    rest(start + p, y, p);
                }
                joinCourse(y);
                start += plan.sizes[y];
            }
        }

        private void rest(int b, int y, int p) {
            firstRests[b] = NONE;
            nextRests[b] = NONE;
            if (y == 0 || plan.sizes[y] <= 0) return;
            int below = plan.sizes[y - 1];
            int place = p * below / plan.sizes[y];
            firstRests[b] = starts[y - 1] + place;
            nextRests[b] = starts[y - 1] + (place + 1 < below ? place + 1 : 0);
        }

        /** Finds the NEIGHBOURS of a COURSE's BLOCKS by its form; NONE, where there is none or no second one. */
        private void joinCourse(int y) {
            int start = starts[y];
            int size = plan.sizes[y];
            int end = Math.min(start + size, BLOCKS_MOST);
            for (int b = start; b < end; b++) {
                if (plan.forms[y] == SPIRAL) {
                    before[b] = b > 0 ? b - 1 : NONE;
                    behind[b] = b + 1 < plan.blocks ? b + 1 : NONE;
                } else {
                    before[b] = size < 2 ? NONE : b > start ? b - 1 : end - 1;
                    behind[b] = size < 3 ? NONE : b + 1 < end ? b + 1 : start;
                }
            }
        }

        /** Makes those COURSES SPIRALS that the bits tell, all others RINGS. */
        void bend(int bits) {
            for (int y = 0; y < plan.courses; y++) {
                int form = (bits >> y & 1) == 1 ? SPIRAL : RING;
                if (plan.forms[y] == form) continue;
                plan.forms[y] = form;
                joinCourse(y);
            }
        }

        /** Lays all anew, but stops as soon as more than that many are SLUMPED: how many are. */
        int raise(int most) {
            clear();
            for (int b = 0; b < plan.blocks && fallen <= most; b++) layNext();
            return fallen;
        }

        /**
         * A new BLOCK makes heavier only those on which it RESTS, all others hold as well as before or better:
         * so unless it or one of those gives, none does.
         */
        void layNext() {
            if (laid >= plan.blocks || laid >= BLOCKS_MOST) return;
            int b = laid;
            int first = firstRests[b];
            int next = nextRests[b];
            states[b] = SOUND;
            laid++;
            load(b, 1);
            if (gives(b) || gives(first) || gives(next)) settle();
        }

        void cutOut(int b) {
            if (!isBelow(b, laid)) return;
            states[b] = GONE;
            cut = b;
            lost[courseOf[b]]++;
            settle();
        }

        private void load(int b, int more) {
            int first = firstRests[b];
            int next = nextRests[b];
            if (first >= 0) loads[first] += more;
            if (next >= 0 && next != first) loads[next] += more;
        }

        private void settle() {
            int fallenAhead = -1;
            for (int look = 0; look <= BLOCKS_MOST && fallen > fallenAhead; look++) {
                fallenAhead = fallen;
                for (int b = 0; b < laid; b++) if (gives(b)) slump(b);
            }
        }

        private void slump(int b) {
            states[b] = FALLEN;
            fallMoments[b] = laid - 1;
            fallen++;
            lost[courseOf[b]]++;
            load(b, -1);
        }

        private boolean gives(int b) {
            if (!isBelow(b, laid) || states[b] != SOUND) return false;
            int first = firstRests[b];
            int next = nextRests[b];
            if (first >= 0 && states[first] == FALLEN) return true;
            if (next >= 0 && states[next] == FALLEN) return true;
            return pullOf(b) > holdOf(b);
        }

        int pullOf(int b) {
            int weight = plan.leans[courseOf[b]] * snow.worths[HEAVY] / 2;
            boolean onCut = cut >= 0 && (firstRests[b] == cut || nextRests[b] == cut);
            return weight + loads[b] + (onCut ? 2 : 0);
        }

        int holdOf(int b) {
            int y = courseOf[b];
            int age = plan.minutes * (laid - 1 - b);
            int frozen = age * snow.worths[COLD] / 20;
            int hold = snow.worths[RUB] + (frozen < snow.worths[GRAIN] ? frozen : snow.worths[GRAIN]);
            int one = before[b];
            int other = behind[b];
            if (one >= 0 && states[one] == SOUND) hold += 2;
            if (other >= 0 && states[other] == SOUND) hold += 2;
            int itself = states[b] == SOUND ? 0 : 1;
            if (starts[y] + plan.sizes[y] <= laid && lost[y] == itself) hold += 3;
            if (builders == 2 && b != laid - 1) hold += 1;
            return hold;
        }

        int firstFallen() {
            int first = NONE;
            for (int b = 0; b < laid; b++) {
                if (states[b] != FALLEN) continue;
                if (first < 0 || fallMoments[b] < fallMoments[first]) first = b;
            }
            return first;
        }

        boolean fellAs(int[] ones) {
            if (laid > ones.length) return false;
            for (int b = 0; b < laid; b++) {
                if ((states[b] == FALLEN) != (ones[b] == 1)) return false;
            }
            return true;
        }

        int standingFirsts() {
            int firsts = 0;
            for (int b = 0; b < laid && b < plan.sizes[0]; b++) if (states[b] != FALLEN) firsts++;
            return firsts;
        }

        int fact(int b, int what) {
            int y = courseOf[b];
            switch (what) {
                case 0: return kindOf(b);
                case 1: return y;
                case 2: return b - starts[y];
                case 3: return firstRests[b];
                default: return fallMoments[b];
            }
        }

        private int kindOf(int b) {
            if (states[b] == FALLEN) return SLUMPED;
            return states[b] == GONE ? CUT : kindAtFirst(b);
        }

        private int kindAtFirst(int b) {
            int y = courseOf[b];
            if (y == 0) return FIRST;
            if (plan.forms[y] == SPIRAL) return RAMPED;
            return b == plan.blocks - 1 && plan.sizes[y] == 1 ? KEY : LEANING;
        }

        boolean isOf(int b, int kind) {
            int own = kindOf(b);
            return own == kind || own == KEY && kind == LEANING || own == CUT && kind == FIRST;
        }

        int markOf(int b, int kind) {
            switch (kind) {
                case FIRST: return b;
                case RAMPED: return b - 1;
                case LEANING: return plan.leans[courseOf[b]];
                case KEY: return firstRests[b] == nextRests[b] ? 1 : 2;
                case CUT: return loads[b];
                default: return kindAtFirst(b);
            }
        }

        long mixInto(long h) {
            if (!there) return 31 * h - 1;
            for (int b = 0; b < laid; b++) {
                for (int what = 0; what < 5; what++) h = 31 * h + fact(b, what);
            }
            return h;
        }
    }

    /** The fewest BLOCKS for so many guests by the PLANS from each one on. */
    private static final class Feast {
        private static final int NO_WAY = 1000000;
        private final int[][] fewest = new int[PLANS + 1][FEAST_MOST + 1];
        private final int[] places = new int[PLANS];

        void clear() {
            Arrays.fill(fewest[PLANS], NO_WAY);
            fewest[PLANS][0] = 0;
        }

        /** Offers a PLAN, the last one first; without places it is of no use to any feast. */
        void offer(int k, int sleepers, int blocks) {
            if (!isBelow(k, PLANS)) return;
            places[k] = sleepers;
            for (int n = 0; n <= FEAST_MOST; n++) {
                int least = fewest[k + 1][n];
                if (n > 0 && sleepers > 0) least = Math.min(least, blocks + fewest[k][Math.max(0, n - sleepers)]);
                fewest[k][n] = least;
            }
        }

        int leastFor(int n) {
            if (!isUpTo(n, FEAST_MOST) || fewest[0][n] >= NO_WAY) return NONE;
            return fewest[0][n];
        }

        /** Takes a hall by a PLAN only where those behind it would need more, so the first have the fewest. */
        void share(int n, int[] halls) {
            int open = Math.min(n, FEAST_MOST);
            for (int k = 0; k < PLANS && k < halls.length; k++) {
                halls[k] = 0;
                for (int hall = 0; hall < FEAST_MOST && open > 0; hall++) {
                    if (fewest[k][open] == fewest[k + 1][open]) break;
                    halls[k]++;
                    open = Math.max(0, open - places[k]);
                }
            }
        }
    }

    /** LAYERS and AIR, HOUR by HOUR. */
    private static final class Indoors {
        final int[] layers = new int[LAYERS];
        int breath;
        private int outside;
        private int lamps;
        private int guests;
        private int holes;
        private boolean isLow;

        void enter(int cold, int lamp, int people, int hole, boolean low) {
            outside = -10 * cold;
            lamps = lamp;
            guests = people;
            holes = hole;
            isLow = low;
            breath = 100;
            Arrays.fill(layers, outside);
        }

        void hour() {
            layers[TOP] += 20 * lamps;
            for (int k = 1; k <= 3; k++) layers[k] += 10 * guests;
            for (int k = 0; k < TOP; k++) riseFrom(k);
            for (int k = 0; k < LAYERS; k++) layers[k] -= (layers[k] - outside) / 10;
            layers[TOP] -= (layers[TOP] - outside) * holes / 20;
            if (!isLow) {
                layers[0] = outside;
                layers[1] -= (layers[1] - outside) / 2;
            }
            int fresh = breath - 2 * guests - lamps + 3 * holes + (isLow ? 0 : 2);
            breath = Math.max(0, Math.min(100, fresh));
        }

        private void riseFrom(int k) {
            if (!isBelow(k, TOP) || layers[k] <= layers[k + 1]) return;
            int warm = layers[k];
            layers[k] = layers[k + 1];
            layers[k + 1] = warm;
        }

        boolean breathes() {
            for (int h = 0; h < 12; h++) {
                hour();
                if (breath < 50) return false;
            }
            return true;
        }

        /** After how many of 24 HOURS LAYER 5 is above 0; NONE, if it drips after any. */
        int thawedHours() {
            int thawed = 0;
            for (int h = 0; h < 24; h++) {
                hour();
                if (layers[TOP] > 30) return NONE;
                if (layers[TOP] > 0) thawed++;
            }
            return thawed;
        }
    }

    /** A WALL, DAY by DAY. */
    private static final class Wall {
        int sagAtLast;

        int daysOf(int lamp, int wind, int each) {
            int thick = 100;
            int sag = 0;
            sagAtLast = 0;
            for (int day = 1; day <= DAYS_MOST; day++) {
                thick -= 3 * wind + lamp + (day >= 5 ? 2 : 0);
                sag += lamp + 1;
                if (each > 0 && day % each == 0) {
                    sag -= sag / 2;
                    thick -= 5;
                }
                if (thick < 30 || sag > 40) return day - 1;
                sagAtLast = sag;
            }
            return DAYS_MOST;
        }
    }
}
