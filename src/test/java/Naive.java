import java.util.ArrayList;
import java.util.List;
import java.util.TreeMap;
import java.util.TreeSet;
import java.util.function.IntPredicate;

/**
 * The document once more, as slowly and as close to its words as can be: everything is worked out anew from the
 * definitions at each look, by other means than SnowHouse uses. RandomTest compares the two.
 */
final class Naive {
    static final int BAD = -1, FINDING = -3, STATE = -4, SPENT = -6, NONE = -9;

    record Snow(int grain, int rub, int cold, int heavy) {
        int get(int what) {
            return List.of(grain, rub, cold, heavy).get(what);
        }
    }

    record Course(boolean spiral, int n, int lean) { }

    record Plan(List<Course> courses, int minutes) {
        int blocks() {
            return courses.stream().mapToInt(Course::n).sum();
        }

        int places() {
            return courses.get(0).n() / 2;
        }
    }

    static final class House {
        Snow snow;
        Plan plan;
        int builders;
        int laid = 0;
        TreeMap<Integer, Integer> slumped = new TreeMap<>();
        TreeSet<Integer> cut = new TreeSet<>();
        final List<TreeSet<Integer>> rests = new ArrayList<>();
        final List<TreeSet<Integer>> neighbours = new ArrayList<>();
        final int[] courses;

        House(Snow snow, Plan plan, int builders) {
            this.snow = snow;
            this.plan = plan;
            this.builders = builders;
            courses = new int[plan.blocks()];
            for (int y = 0; y < plan.courses().size(); y++) {
                for (int p = 0; p < plan.courses().get(y).n(); p++) courses[start(y) + p] = y;
            }
            for (int b = 0; b < courses.length; b++) {
                rests.add(restsOf(b));
                neighbours.add(neighboursOf(b));
            }
        }

        House same() {
            House h = new House(snow, plan, builders);
            h.laid = laid;
            h.slumped = new TreeMap<>(slumped);
            h.cut = new TreeSet<>(cut);
            return h;
        }

        int courseOf(int b) {
            return courses[b];
        }

        int start(int y) {
            int start = 0;
            for (int below = 0; below < y; below++) start += plan.courses().get(below).n();
            return start;
        }

        int place(int b) {
            return b - start(courseOf(b));
        }

        int firstRest(int b) {
            int y = courseOf(b);
            if (y == 0) return NONE;
            int m = plan.courses().get(y - 1).n();
            return start(y - 1) + place(b) * m / plan.courses().get(y).n();
        }

        TreeSet<Integer> restsOf(int b) {
            TreeSet<Integer> on = new TreeSet<>();
            int y = courseOf(b);
            if (y == 0) return on;
            int m = plan.courses().get(y - 1).n();
            int first = firstRest(b) - start(y - 1);
            on.add(start(y - 1) + first);
            on.add(start(y - 1) + (first + 1) % m);
            return on;
        }

        TreeSet<Integer> neighboursOf(int b) {
            TreeSet<Integer> by = new TreeSet<>();
            int y = courseOf(b);
            int n = plan.courses().get(y).n();
            if (plan.courses().get(y).spiral()) {
                by.add(b - 1);
                by.add(b + 1);
                by.removeIf(o -> o < 0 || o >= plan.blocks());
            } else {
                by.add(start(y) + (place(b) + 1) % n);
                by.add(start(y) + (place(b) + n - 1) % n);
                by.remove(b);
            }
            return by;
        }

        boolean isSound(int b) {
            return b < laid && !slumped.containsKey(b) && !cut.contains(b);
        }

        boolean isClosed(int b) {
            int y = courseOf(b);
            for (int o = start(y); o < start(y) + plan.courses().get(y).n(); o++) if (o != b && !isSound(o)) return false;
            return true;
        }

        int hold(int b) {
            int moment = laid - 1;
            int frozen = Math.min(snow.grain(), plan.minutes() * (moment - b) * snow.cold() / 20);
            int hold = snow.rub() + frozen;
            for (int o : neighbours.get(b)) hold += isSound(o) ? 2 : 0;
            hold += isClosed(b) ? 3 : 0;
            hold += builders == 2 && b != moment ? 1 : 0;
            return hold;
        }

        int onIt(int b) {
            int on = 0;
            for (int o = 0; o < laid; o++) if (!slumped.containsKey(o) && rests.get(o).contains(b)) on++;
            return on;
        }

        int pull(int b) {
            int pull = plan.courses().get(courseOf(b)).lean() * snow.heavy() / 2 + onIt(b);
            for (int o : rests.get(b)) if (cut.contains(o)) pull += 2;
            return pull;
        }

        void slumpAll() {
            boolean any = true;
            while (any) {
                any = false;
                for (int b = 0; b < laid; b++) {
                    if (!isSound(b)) continue;
                    boolean on = rests.get(b).stream().anyMatch(slumped::containsKey);
                    if (!on && pull(b) <= hold(b)) continue;
                    slumped.put(b, laid - 1);
                    any = true;
                }
            }
        }

        void lay() {
            laid++;
            slumpAll();
        }

        /** Anew, LAID to the last BLOCK. */
        House anew() {
            House h = new House(snow, plan, builders);
            while (h.laid < plan.blocks()) h.lay();
            return h;
        }

        boolean stands() {
            return anew().slumped.isEmpty();
        }

        int first() {
            int least = slumped.values().stream().mapToInt(m -> m).min().orElse(NONE);
            for (int b : slumped.keySet()) if (slumped.get(b) == least) return b;
            return NONE;
        }

        int kindWas(int b) {
            int y = courseOf(b);
            if (y == 0) return 1;
            if (plan.courses().get(y).spiral()) return 2;
            return plan.courses().get(y).n() == 1 && b == plan.blocks() - 1 ? 4 : 3;
        }

        int kind(int b) {
            return slumped.containsKey(b) ? 6 : cut.contains(b) ? 5 : kindWas(b);
        }

        int fact(int b, int what) {
            return switch (what) {
                case 0 -> kind(b);
                case 1 -> courseOf(b);
                case 2 -> place(b);
                case 3 -> firstRest(b);
                default -> slumped.getOrDefault(b, NONE);
            };
        }

        House by(Plan other) {
            return new House(snow, other, builders);
        }
    }

    final int[][] rows = new int[6][];
    final byte[][] texts = new byte[4][];
    final Snow[] snows = new Snow[4];
    final Plan[] plans = new Plan[4];
    House house;
    final House[] kept = new House[3];
    int asked = 0;
    long upper = 0;
    long lower = 1;
    int finding = 0;
    final int[] findings = new int[6];

    private int find(int f) {
        finding = f;
        findings[f]++;
        return FINDING;
    }

    private int tell(int v) {
        asked = v;
        return 1;
    }

    private static boolean in(int v, int least, int most) {
        return v >= least && v <= most;
    }

    int row(int r, int n) {
        if (!in(r, 0, 5) || n > 60) return BAD;
        if (n < 0) return find(5);
        rows[r] = new int[n];
        return n;
    }

    int lay(int r, int i, int v) {
        if (!in(r, 0, 5)) return BAD;
        if (rows[r] == null) return find(1);
        if (!in(i, 0, rows[r].length - 1)) return find(2);
        tell(rows[r][i]);
        rows[r][i] = v;
        return 1;
    }

    int at(int r, int i) {
        if (!in(r, 0, 5)) return BAD;
        if (rows[r] == null) return find(1);
        return in(i, 0, rows[r].length - 1) ? tell(rows[r][i]) : find(2);
    }

    int tear(int r) {
        if (!in(r, 0, 5)) return BAD;
        if (rows[r] == null) return find(1);
        rows[r] = null;
        return 1;
    }

    int copy(int r, int i, int to, int j, int n) {
        if (!in(r, 0, 5) || !in(to, 0, 5)) return BAD;
        if (n < 0) return find(5);
        if (rows[r] == null || rows[to] == null) return find(1);
        if (i < 0 || j < 0 || (long) i + n > rows[r].length || (long) j + n > rows[to].length) return find(2);
        int[] ahead = rows[r].clone();
        for (int k = 0; k < n; k++) rows[to][j + k] = ahead[i + k];
        return 1;
    }

    int mean(int r) {
        if (!in(r, 0, 5)) return BAD;
        if (rows[r] == null) return find(1);
        if (rows[r].length == 0) return find(4);
        long sum = 0;
        for (int v : rows[r]) sum += v;
        return tell((int) (sum / rows[r].length));
    }

    int text(int t, int n) {
        if (!in(t, 0, 3) || n > 80) return BAD;
        if (n < 0) return find(5);
        texts[t] = " ".repeat(n).getBytes();
        return n;
    }

    int put(int t, int i, int v) {
        if (!in(t, 0, 3)) return BAD;
        if (texts[t] == null) return find(1);
        if (!in(i, 0, texts[t].length - 1)) return find(2);
        int was = texts[t][i];
        int low = v & 255;
        texts[t][i] = (byte) (low > 127 ? low - 256 : low);
        return was + 1000;
    }

    /** What reading a TEXT came to: a FAULT (NONE: none), and the items as {letter, n, l}. */
    record Reading(int fault, List<int[]> items) { }

    private static boolean isFigure(byte[] t, int i) {
        return i < t.length && t[i] >= '0' && t[i] <= '9';
    }

    private static Reading readSnow(byte[] t) {
        List<int[]> items = new ArrayList<>();
        int i = 0;
        while (i < t.length) {
            if (t[i] == ' ') {
                i++;
                continue;
            }
            int what = "grcw".indexOf(t[i]);
            if (what < 0) return new Reading(i, items);
            if (!isFigure(t, i + 1)) return new Reading(i + 1, items);
            int end = isFigure(t, i + 2) ? i + 3 : i + 2;
            int v = Integer.parseInt(new String(t, i + 1, end - i - 1));
            int[][] range = {{1, 30}, {0, 9}, {0, 40}, {1, 9}};
            if (!in(v, range[what][0], range[what][1])) return new Reading(end, items);
            items.add(new int[] {what, v});
            i = end;
        }
        return new Reading(NONE, items);
    }

    private static Reading readPlan(byte[] t) {
        List<int[]> items = new ArrayList<>();
        int i = 0;
        int courses = 0;
        int blocks = 0;
        while (i < t.length) {
            if (t[i] == ' ') {
                i++;
                continue;
            }
            int letter = t[i];
            int n = 0;
            int end = i + 1;
            if ("rsm".indexOf(letter) < 0) return new Reading(i, items);
            if (letter != 'm') {
                if (++courses > 8) return new Reading(i, items);
                if (!isFigure(t, end)) return new Reading(end, items);
                end += isFigure(t, end + 1) ? 2 : 1;
                n = Integer.parseInt(new String(t, i + 1, end - i - 1));
                blocks += n;
                if (!in(n, 1, 12) || blocks > 60) return new Reading(end, items);
            }
            if (end >= t.length || t[end] != ':') return new Reading(end, items);
            if (!isFigure(t, end + 1) || letter == 'm' && t[end + 1] == '0') return new Reading(end + 1, items);
            items.add(new int[] {letter, n, t[end + 1] - '0'});
            i = end + 2;
        }
        return new Reading(courses == 0 ? t.length : NONE, items);
    }

    int fault(int t, boolean plan) {
        if (!in(t, 0, 3)) return BAD;
        if (texts[t] == null) return find(1);
        return (plan ? readPlan(texts[t]) : readSnow(texts[t])).fault();
    }

    int snow(int k, int t) {
        if (!in(k, 0, 3) || !in(t, 0, 3)) return BAD;
        if (texts[t] == null) return find(1);
        Reading read = readSnow(texts[t]);
        if (read.fault() != NONE) return STATE;
        int[] w = {12, 4, 20, 3};
        for (int[] item : read.items()) w[item[0]] = item[1];
        snows[k] = new Snow(w[0], w[1], w[2], w[3]);
        return read.items().size();
    }

    int plan(int k, int t) {
        if (!in(k, 0, 3) || !in(t, 0, 3)) return BAD;
        if (texts[t] == null) return find(1);
        Reading read = readPlan(texts[t]);
        if (read.fault() != NONE) return STATE;
        int minutes = 2;
        List<Course> courses = new ArrayList<>();
        for (int[] item : read.items()) {
            if (item[0] == 'm') minutes = item[2];
            else courses.add(new Course(item[0] == 's', item[1], item[2]));
        }
        plans[k] = new Plan(courses, minutes);
        return plans[k].blocks();
    }

    int about(int k, int what) {
        if (!in(k, 0, 3) || !in(what, 0, 3)) return BAD;
        return snows[k] == null ? find(1) : tell(snows[k].get(what));
    }

    private int tellsOf(int k, int what) {
        Plan p = plans[k];
        return List.of(p.courses().size(), p.minutes(), p.blocks(), p.places()).get(what);
    }

    int tells(int k, int what) {
        if (!in(k, 0, 3) || !in(what, 0, 3)) return BAD;
        return plans[k] == null ? find(1) : tell(tellsOf(k, what));
    }

    int course(int k, int y) {
        if (!in(k, 0, 3)) return BAD;
        if (plans[k] == null) return find(1);
        if (!in(y, 0, plans[k].courses().size() - 1)) return find(2);
        Course c = plans[k].courses().get(y);
        tell(10 * c.n() + c.lean());
        return c.spiral() ? 2 : 1;
    }

    int house(int snow, int plan, int builders) {
        if (!in(snow, 0, 3) || !in(plan, 0, 3) || !in(builders, 1, 2)) return BAD;
        if (snows[snow] == null || plans[plan] == null) return find(1);
        house = new House(snows[snow], plans[plan], builders);
        return plans[plan].blocks();
    }

    int go(int n) {
        if (!in(n, 0, 60)) return BAD;
        if (house == null) return STATE;
        if (house.laid + n > house.plan.blocks()) return SPENT;
        for (int i = 0; i < n; i++) house.lay();
        return house.laid;
    }

    private boolean isLaid(int i) {
        return house != null && in(i, 0, house.laid - 1);
    }

    int block(int i, int what) {
        return !isLaid(i) || !in(what, 0, 4) ? BAD : tell(house.fact(i, what));
    }

    int pull(int i) {
        if (!isLaid(i)) return BAD;
        tell(house.hold(i));
        return house.pull(i);
    }

    int mark(int i, int kind) {
        if (!isLaid(i) || !in(kind, 1, 6)) return BAD;
        int is = house.kind(i);
        if (kind == 1 && (is == 1 || is == 5)) return house.place(i);
        if (kind == 3 && (is == 3 || is == 4)) return house.plan.courses().get(house.courseOf(i)).lean();
        if (kind != is) return find(3);
        return switch (kind) {
            case 2 -> i - 1;
            case 4 -> house.rests.get(i).size();
            case 5 -> house.onIt(i);
            default -> house.kindWas(i);
        };
    }

    int door(int p) {
        if (!in(p, 0, 11)) return BAD;
        if (house == null || house.laid < house.plan.blocks() || !house.cut.isEmpty()) return STATE;
        if (p >= house.plan.courses().get(0).n()) return BAD;
        if (house.slumped.containsKey(p)) return find(3);
        house.cut.add(p);
        house.slumpAll();
        return house.slumped.size();
    }

    int keep(int k) {
        if (!in(k, 0, 2)) return BAD;
        if (house == null) return STATE;
        kept[k] = house.same();
        return house.laid;
    }

    int on(int k) {
        if (!in(k, 0, 2)) return BAD;
        if (kept[k] == null) return find(1);
        house = kept[k].same();
        return house.laid;
    }

    int slumped() {
        if (house == null) return STATE;
        tell(house.first());
        return house.slumped.size();
    }

    int falls() {
        if (house == null) return STATE;
        House h = house.anew();
        if (h.slumped.isEmpty()) return NONE;
        tell(h.first());
        return h.slumped.get(h.first());
    }

    private Plan withMinutes(int v) {
        return new Plan(house.plan.courses(), v);
    }

    private Plan withLean(int y, int l) {
        List<Course> courses = new ArrayList<>(house.plan.courses());
        courses.set(y, new Course(courses.get(y).spiral(), courses.get(y).n(), l));
        return new Plan(courses, house.plan.minutes());
    }

    private static int least(int from, int to, IntPredicate fits) {
        for (int v = from; v <= to; v++) if (fits.test(v)) return v;
        return NONE;
    }

    int pace(int v) {
        if (!in(v, 1, 9)) return BAD;
        return house == null ? STATE : house.by(withMinutes(v)).anew().slumped.size();
    }

    int lean(int y) {
        if (!in(y, 0, 7)) return BAD;
        if (house == null) return STATE;
        if (y >= house.plan.courses().size()) return find(2);
        int most = NONE;
        for (int l = 0; l <= 9; l++) if (house.by(withLean(y, l)).stands()) most = l;
        return most;
    }

    private boolean standsByCold(int cold) {
        Snow s = house.snow;
        return new House(new Snow(s.grain(), s.rub(), cold, s.heavy()), house.plan, house.builders).stands();
    }

    int slow() {
        if (house == null) return STATE;
        int v = least(1, 9, m -> house.by(withMinutes(m)).stands());
        if (v != NONE) tell(least(0, 40, this::standsByCold));
        return v;
    }

    int spiral() {
        if (house == null) return STATE;
        int size = house.plan.courses().size();
        int best = 0;
        int fewest = 1000;
        for (int bits = 0; bits < 1 << size; bits++) {
            List<Course> courses = new ArrayList<>();
            for (int y = 0; y < size; y++) {
                Course c = house.plan.courses().get(y);
                courses.add(new Course((bits & 1 << y) != 0, c.n(), c.lean()));
            }
            int fallen = house.by(new Plan(courses, house.plan.minutes())).anew().slumped.size();
            if (fallen < fewest) {
                fewest = fallen;
                best = bits;
            }
        }
        tell(fewest);
        return best;
    }

    /** Each SLIP that there is, by its number. */
    private TreeMap<Integer, Plan> slips() {
        TreeMap<Integer, Plan> slips = new TreeMap<>();
        for (int y = 0; y < house.plan.courses().size(); y++) {
            int l = house.plan.courses().get(y).lean();
            if (l + 1 <= 9) slips.put(10 * y, withLean(y, l + 1));
            if (l + 2 <= 9) slips.put(10 * y + 1, withLean(y, l + 2));
            if (l - 1 >= 0) slips.put(10 * y + 2, withLean(y, l - 1));
        }
        int m = house.plan.minutes();
        if (m - 1 >= 1) slips.put(80, withMinutes(m - 1));
        if (m + 1 <= 9) slips.put(90, withMinutes(m + 1));
        return slips;
    }

    int fell(int r) {
        if (!in(r, 0, 5)) return BAD;
        if (house == null) return STATE;
        if (rows[r] == null) return find(1);
        if (rows[r].length != house.plan.blocks()) return find(5);
        TreeSet<Integer> wanted = new TreeSet<>();
        for (int i = 0; i < rows[r].length; i++) {
            if (!in(rows[r][i], 0, 1)) return find(3);
            if (rows[r][i] == 1) wanted.add(i);
        }
        TreeSet<Integer> do_ = new TreeSet<>();
        slips().forEach((s, p) -> {
            if (house.by(p).anew().slumped.keySet().equals(wanted)) do_.add(s);
        });
        if (do_.isEmpty()) return NONE;
        tell(do_.size());
        return do_.first();
    }

    int odds() {
        if (house == null) return STATE;
        TreeMap<Integer, Plan> slips = slips();
        int stand = 0;
        for (Plan p : slips.values()) if (house.by(p).stands()) stand++;
        upper = stand;
        lower = slips.size();
        for (int d = slips.size(); d > 1; d--) {
            if (upper % d == 0 && lower % d == 0) {
                upper /= d;
                lower /= d;
            }
        }
        return slips.size();
    }

    private boolean noPlan() {
        for (Plan p : plans) if (p != null) return false;
        return true;
    }

    int storm(int snow, int builders, int t, int n) {
        if (!in(snow, 0, 3) || !in(builders, 1, 2) || !in(t, 0, 600) || !in(n, 0, 6)) return BAD;
        if (snows[snow] == null || noPlan()) return find(1);
        int best = NONE;
        int time = 0;
        for (int k = 3; k >= 0; k--) {
            if (plans[k] == null || plans[k].places() < n) continue;
            int minutes = plans[k].blocks() * plans[k].minutes();
            if (builders == 2) minutes = minutes / 2 + minutes % 2;
            if (minutes > t || !new House(snows[snow], plans[k], builders).stands()) continue;
            if (best != NONE && plans[best].blocks() < plans[k].blocks()) continue;
            best = k;
            time = minutes;
        }
        if (best != NONE) tell(time);
        return best;
    }

    int halls(int snow, int n, int r) {
        if (!in(snow, 0, 3) || !in(n, 1, 40) || !in(r, 0, 5)) return BAD;
        if (snows[snow] == null || noPlan()) return find(1);
        int[] most = new int[4];
        int[] places = new int[4];
        int[] blocks = new int[4];
        for (int k = 0; k < 4; k++) {
            if (plans[k] == null || !new House(snows[snow], plans[k], 1).stands()) continue;
            places[k] = plans[k].places();
            blocks[k] = plans[k].blocks();
            most[k] = places[k] == 0 ? 0 : (n + places[k] - 1) / places[k];
        }
        int fewest = Integer.MAX_VALUE;
        int[] best = null;
        for (int a = 0; a <= most[0]; a++) {
            for (int b = 0; b <= most[1]; b++) {
                for (int c = 0; c <= most[2]; c++) {
                    for (int d = 0; d <= most[3]; d++) {
                        if (a * places[0] + b * places[1] + c * places[2] + d * places[3] < n) continue;
                        int all = a * blocks[0] + b * blocks[1] + c * blocks[2] + d * blocks[3];
                        if (all >= fewest) continue;
                        fewest = all;
                        best = new int[] {a, b, c, d};
                    }
                }
            }
        }
        if (best == null) return NONE;
        rows[r] = best;
        return fewest;
    }

    int quarry(int k) {
        if (!in(k, 0, 3)) return BAD;
        if (plans[k] == null) return find(1);
        int n = plans[k].courses().get(0).n();
        int lack = plans[k].blocks() - n * n / 4;
        tell(lack < 0 ? 0 : lack);
        return n * n / 4;
    }

    /** LAYERS 0 .. 5, then AIR, at first and after each of n HOURS. */
    private static List<int[]> hours(int cold, int lamp, int people, int hole, boolean low, int n) {
        int out = -10 * cold;
        int[] at = {out, out, out, out, out, out, 100};
        List<int[]> all = new ArrayList<>();
        all.add(at.clone());
        for (int h = 1; h <= n; h++) {
            at[5] += 20 * lamp;
            at[1] += 10 * people;
            at[2] += 10 * people;
            at[3] += 10 * people;
            for (int k = 0; k <= 4; k++) {
                int cooler = Math.min(at[k], at[k + 1]);
                int warmer = Math.max(at[k], at[k + 1]);
                at[k] = cooler;
                at[k + 1] = warmer;
            }
            for (int k = 0; k <= 5; k++) at[k] = at[k] - (at[k] - out) / 10;
            at[5] = at[5] - hole * (at[5] - out) / 20;
            if (!low) {
                at[0] = out;
                at[1] = at[1] - (at[1] - out) / 2;
            }
            at[6] += -2 * people - lamp + 3 * hole;
            if (!low) at[6] += 2;
            if (at[6] < 0) at[6] = 0;
            if (at[6] > 100) at[6] = 100;
            all.add(at.clone());
        }
        return all;
    }

    int air(int snow, int lamp, int people, int hole, int low, int n) {
        if (!in(snow, 0, 3) || !in(lamp, 0, 9) || !in(people, 0, 9) || !in(hole, 0, 9)) return BAD;
        if (!in(low, 0, 1) || !in(n, 0, 48)) return BAD;
        if (snows[snow] == null) return find(1);
        int[] at = hours(snows[snow].cold(), lamp, people, hole, low == 1, n).get(n);
        tell(at[5]);
        return at[6];
    }

    int layer(int snow, int lamp, int people, int hole, int n, int layer) {
        if (!in(snow, 0, 3) || !in(lamp, 0, 9) || !in(people, 0, 9) || !in(hole, 0, 9)) return BAD;
        if (!in(n, 0, 48) || !in(layer, 0, 5)) return BAD;
        if (snows[snow] == null) return find(1);
        return tell(hours(snows[snow].cold(), lamp, people, hole, true, n).get(n)[layer]);
    }

    int hole(int snow, int lamp, int people) {
        if (!in(snow, 0, 3) || !in(lamp, 0, 9) || !in(people, 0, 9)) return BAD;
        if (snows[snow] == null) return find(1);
        int cold = snows[snow].cold();
        int hole = least(0, 9, v -> hours(cold, lamp, people, v, true, 12).stream().allMatch(at -> at[6] >= 50));
        if (hole != NONE) tell(hours(cold, lamp, people, hole, true, 12).get(12)[5]);
        return hole;
    }

    int drips(int snow, int people, int hole) {
        if (!in(snow, 0, 3) || !in(people, 0, 9) || !in(hole, 0, 9)) return BAD;
        if (snows[snow] == null) return find(1);
        int most = NONE;
        for (int lamp = 0; lamp <= 9; lamp++) {
            List<int[]> all = hours(snows[snow].cold(), lamp, people, hole, true, 24).subList(1, 25);
            if (all.stream().anyMatch(at -> at[5] > 30)) continue;
            most = lamp;
            tell((int) all.stream().filter(at -> at[5] > 0).count());
        }
        return most;
    }

    /** How many DAYS it LASTS, and SAG at their end. */
    private static int[] lasting(int lamp, int wind, int s) {
        int wall = 100;
        int sag = 0;
        int[] last = {0, 0};
        for (int day = 1; day <= 60; day++) {
            wall = wall - 3 * wind - lamp;
            if (day >= 5) wall -= 2;
            sag = sag + lamp + 1;
            if (s != 0 && day % s == 0) {
                sag = sag - sag / 2;
                wall -= 5;
            }
            if (!(wall >= 30 && sag <= 40)) break;
            last = new int[] {day, sag};
        }
        return last;
    }

    int lasts(int lamp, int wind, int s) {
        if (!in(lamp, 0, 9) || !in(wind, 0, 9) || !in(s, 0, 9)) return BAD;
        int[] last = lasting(lamp, wind, s);
        tell(last[1]);
        return last[0];
    }

    int scrape(int lamp, int wind) {
        if (!in(lamp, 0, 9) || !in(wind, 0, 9)) return BAD;
        int best = 9;
        for (int s = 9; s >= 0; s--) if (lasting(lamp, wind, s)[0] >= lasting(lamp, wind, best)[0]) best = s;
        tell(lasting(lamp, wind, best)[0]);
        return best;
    }

    private static int there(Object[] all) {
        int n = 0;
        for (Object o : all) n += o == null ? 0 : 1;
        return n;
    }

    int count(int what) {
        switch (what) {
            case 0: return there(snows);
            case 1: return there(plans);
            case 2: return house == null ? 0 : house.laid;
            case 3: return house == null ? 0 : house.slumped.size();
            case 4:
                int firsts = 0;
                for (int b = 0; house != null && b < house.laid; b++) {
                    if (house.courseOf(b) == 0 && !house.slumped.containsKey(b)) firsts++;
                }
                return firsts;
            case 5: return there(kept);
            case 6: return there(rows);
            case 7: return there(texts);
            default: return BAD;
        }
    }

    int findings(int f) {
        return in(f, 1, 5) ? findings[f] : BAD;
    }

    long digest() {
        List<Integer> v = new ArrayList<>();
        for (int what = 0; what < 8; what++) v.add(count(what));
        for (Snow s : snows) {
            if (s == null) v.add(-1);
            else v.addAll(List.of(s.grain(), s.rub(), s.cold(), s.heavy()));
        }
        for (int k = 0; k < 4; k++) {
            if (plans[k] == null) {
                v.add(-1);
                continue;
            }
            for (int what = 0; what < 4; what++) v.add(tellsOf(k, what));
            for (Course c : plans[k].courses()) v.addAll(List.of(c.spiral() ? 2 : 1, 10 * c.n() + c.lean()));
        }
        if (house == null) v.add(-1);
        for (int b = 0; house != null && b < house.laid; b++) for (int what = 0; what < 5; what++) v.add(house.fact(b, what));
        for (int[] r : rows) {
            v.add(r == null ? -1 : r.length);
            for (int i = 0; r != null && i < r.length; i++) v.add(r[i]);
        }
        for (byte[] t : texts) {
            v.add(t == null ? -1 : t.length);
            for (int i = 0; t != null && i < t.length; i++) v.add((int) t[i]);
        }
        long h = 17;
        for (int x : v) h = 31 * h + x;
        return h;
    }
}
