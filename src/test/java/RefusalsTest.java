import java.util.ArrayList;
import java.util.List;
import java.util.function.Supplier;
import java.util.function.ToIntFunction;

/**
 * Refusals: of each number of each call the last value that is taken and the first that is not, on both sides; of
 * refusals that fit at once the one that is due; and that nothing changes but finding() and findings().
 */
final class RefusalsTest {
    private static final int BAD = SnowHouse.BAD, STATE = SnowHouse.STATE, SPENT = SnowHouse.SPENT;
    private static final int NONE = SnowHouse.NONE;
    private static final int NOTHING = 1, BEYOND = 2, UNLIKE = 3, NOUGHT = 4, SIZE = 5;
    private static final int LEAST = Integer.MIN_VALUE, MOST = Integer.MAX_VALUE;
    private static final int FREE = MOST;
    private static final int[] NUMBERS_OF_A_ROW = {0, 5}, NUMBERS_OF_FOUR = {0, 3}, AMOUNTS = {0, 9};
    private static final Check c = new Check();

    /** 60 BLOCKS in 8 COURSES, 12 of them in COURSE 0, that stand by RUB 9. */
    private static final String WIDE = "r12:0r12:0r12:0r12:0r9:0r1:0r1:0r1:0";

    private interface Made {
        int by(SnowHouse x, int[] g);
    }

    /**
     * A call, what refuses it on a new object (0: nothing), numbers that it takes, and the least and most of each
     * that are not BAD (FREE: none is).
     */
    private record Call(String name, int onNew, Made made, int[] given, int[][] edges) {
        String told(int[] g) {
            StringBuilder text = new StringBuilder(name);
            for (int v : g) text.append(' ').append(v);
            return text.toString();
        }

        int[] with(int i, int v) {
            int[] g = given.clone();
            g[i] = v;
            return g;
        }
    }

    private static final List<Call> CALLS = new ArrayList<>();

    private static void add(String name, int onNew, Made made, int[] given, int[]... edges) {
        CALLS.add(new Call(name, onNew, made, given, edges));
    }

    private static int[] given(int... g) {
        return g;
    }

    private static int[] to(int least, int most) {
        return new int[] {least, most};
    }

    private static int[] any() {
        return new int[] {FREE, FREE};
    }

    /** Everything is there: ROWS, TEXTS that say this, SNOWS, PLANS, a HOUSE all LAID, kept ones. */
    private static SnowHouse full(String texts) {
        SnowHouse x = new SnowHouse();
        Check.write(x, 0, "r9c40");
        for (int k = 0; k < 4; k++) x.snow(k, 0);
        Check.write(x, 0, WIDE);
        for (int k = 0; k < 4; k++) x.plan(k, 0);
        for (int t = 0; t < 4; t++) Check.write(x, t, texts);
        for (int r = 0; r < 6; r++) x.row(r, 60);
        x.house(0, 0, 2);
        for (int k = 0; k < 2; k++) {
            x.go(20 * k);
            x.keep(k);
        }
        x.go(40);
        x.keep(2);
        x.lay(1, 59, -77);
        x.at(1, 59);
        x.odds();
        x.lay(1, 59, 0);
        x.tear(1);
        x.tear(1);
        x.row(1, 60);
        return x;
    }

    private static SnowHouse full() {
        return full("");
    }

    private static void addRows() {
        add("row", 0, (x, g) -> x.row(g[0], g[1]), given(2, 7), NUMBERS_OF_A_ROW, to(FREE, 60));
        add("lay", NOTHING, (x, g) -> x.lay(g[0], g[1], g[2]), given(2, 59, 1), NUMBERS_OF_A_ROW, any(), any());
        add("at", NOTHING, (x, g) -> x.at(g[0], g[1]), given(2, 0), NUMBERS_OF_A_ROW, any());
        add("tear", NOTHING, (x, g) -> x.tear(g[0]), given(2), NUMBERS_OF_A_ROW);
        add("copy", NOTHING, (x, g) -> x.copy(g[0], g[1], g[2], g[3], g[4]), given(2, 0, 3, 0, 60),
                NUMBERS_OF_A_ROW, any(), NUMBERS_OF_A_ROW, any(), any());
        add("mean", NOTHING, (x, g) -> x.mean(g[0]), given(2), NUMBERS_OF_A_ROW);
        add("text", 0, (x, g) -> x.text(g[0], g[1]), given(2, 7), NUMBERS_OF_FOUR, to(FREE, 80));
        add("snow", NOTHING, (x, g) -> x.snow(g[0], g[1]), given(2, 2), NUMBERS_OF_FOUR, NUMBERS_OF_FOUR);
        add("fault of a PLAN", NOTHING, (x, g) -> x.fault(g[0], true), given(2), NUMBERS_OF_FOUR);
        add("about", NOTHING, (x, g) -> x.about(g[0], g[1]), given(2, 2), NUMBERS_OF_FOUR, to(0, 3));
        add("tells", NOTHING, (x, g) -> x.tells(g[0], g[1]), given(2, 2), NUMBERS_OF_FOUR, to(0, 3));
        add("course", NOTHING, (x, g) -> x.course(g[0], g[1]), given(2, 7), NUMBERS_OF_FOUR, any());
    }

    private static void addHouses() {
        add("house", NOTHING, (x, g) -> x.house(g[0], g[1], g[2]), given(2, 2, 1),
                NUMBERS_OF_FOUR, NUMBERS_OF_FOUR, to(1, 2));
        add("block", BAD, (x, g) -> x.block(g[0], g[1]), given(20, 2), to(0, 59), to(0, 4));
        add("pull", BAD, (x, g) -> x.pull(g[0]), given(20), to(0, 59));
        add("door", STATE, (x, g) -> x.door(g[0]), given(5), to(0, 11));
        add("keep", STATE, (x, g) -> x.keep(g[0]), given(1), to(0, 2));
        add("on", NOTHING, (x, g) -> x.on(g[0]), given(1), to(0, 2));
    }

    private static void addStands() {
        add("pace", STATE, (x, g) -> x.pace(g[0]), given(2), to(1, 9));
        add("lean", STATE, (x, g) -> x.lean(g[0]), given(2), to(0, 7));
        add("fell", STATE, (x, g) -> x.fell(g[0]), given(2), NUMBERS_OF_A_ROW);
        add("storm", NOTHING, (x, g) -> x.storm(g[0], g[1], g[2], g[3]), given(2, 1, 200, 2),
                NUMBERS_OF_FOUR, to(1, 2), to(FREE, 600), to(0, 6));
        add("halls", NOTHING, (x, g) -> x.halls(g[0], g[1], g[2]), given(2, 7, 2),
                NUMBERS_OF_FOUR, to(1, 40), NUMBERS_OF_A_ROW);
        add("quarry", NOTHING, (x, g) -> x.quarry(g[0]), given(2), NUMBERS_OF_FOUR);
    }

    private static void addIndoors() {
        add("air", NOTHING, (x, g) -> x.air(g[0], g[1], g[2], g[3], g[4], g[5]), given(2, 2, 2, 2, 1, 7),
                NUMBERS_OF_FOUR, AMOUNTS, AMOUNTS, AMOUNTS, to(0, 1), to(0, 48));
        add("layer", NOTHING, (x, g) -> x.layer(g[0], g[1], g[2], g[3], g[4], g[5]), given(2, 2, 2, 2, 7, 2),
                NUMBERS_OF_FOUR, AMOUNTS, AMOUNTS, AMOUNTS, to(0, 48), to(0, 5));
        add("hole", NOTHING, (x, g) -> x.hole(g[0], g[1], g[2]), given(2, 2, 2), NUMBERS_OF_FOUR, AMOUNTS, AMOUNTS);
        add("drips", NOTHING, (x, g) -> x.drips(g[0], g[1], g[2]), given(2, 2, 2), NUMBERS_OF_FOUR, AMOUNTS, AMOUNTS);
        add("lasts", 0, (x, g) -> x.lasts(g[0], g[1], g[2]), given(2, 2, 2), AMOUNTS, AMOUNTS, AMOUNTS);
        add("scrape", 0, (x, g) -> x.scrape(g[0], g[1]), given(2, 2), AMOUNTS, AMOUNTS);
        add("count", 0, (x, g) -> x.count(g[0]), given(2), to(0, 7));
        add("findings", 0, (x, g) -> x.findings(g[0]), given(2), to(1, 5));
    }

    private static void isBad(Call call, int i, int v) {
        int[] g = call.with(i, v);
        c.refused(RefusalsTest::full, call.told(g), x -> call.made().by(x, g), BAD);
        c.refused(SnowHouse::new, call.told(g) + ", a new object", x -> call.made().by(x, g), BAD);
    }

    /** On a new object an edge is refused by what is missing there, so it is not BAD. */
    private static void isTaken(Call call, int i, int v) {
        int[] g = call.with(i, v);
        c.taken(RefusalsTest::full, call.told(g), x -> call.made().by(x, g));
        ToIntFunction<SnowHouse> made = x -> call.made().by(x, g);
        String name = call.told(g) + ", a new object";
        if (call.onNew() == BAD || call.onNew() == STATE) c.refused(SnowHouse::new, name, made, call.onNew());
        if (call.onNew() == NOTHING) c.finds(SnowHouse::new, name, made, NOTHING);
        if (call.onNew() == 0) c.taken(SnowHouse::new, name, made);
    }

    private static void edges() {
        for (Call call : CALLS) {
            c.at("edges");
            for (int i = 0; i < call.given().length; i++) {
                int least = call.edges()[i][0];
                int most = call.edges()[i][1];
                if (most == FREE) continue;
                isTaken(call, i, most);
                for (int v : new int[] {most + 1, MOST}) isBad(call, i, v);
                if (least == FREE) continue;
                isTaken(call, i, least);
                for (int v : new int[] {least - 1, LEAST}) isBad(call, i, v);
            }
        }
    }

    private static void refused(String call, int want, Supplier<SnowHouse> maker, ToIntFunction<SnowHouse> made) {
        c.refused(maker, call, made, want);
    }

    private static void finds(String call, int finding, Supplier<SnowHouse> maker, ToIntFunction<SnowHouse> made) {
        c.finds(maker, call, made, finding);
    }

    private static SnowHouse withoutRow() {
        SnowHouse x = full();
        x.tear(4);
        return x;
    }

    private static void ofRows() {
        c.at("promises 2 to 7");
        c.taken(RefusalsTest::full, "row(2, 0)", x -> x.row(2, 0));
        finds("row(0, -1)", SIZE, RefusalsTest::full, x -> x.row(0, -1));
        finds("row(5, LEAST), a new object", SIZE, SnowHouse::new, x -> x.row(5, LEAST));
        refused("row(6, -1)", BAD, RefusalsTest::full, x -> x.row(6, -1));
        refused("row(-1, LEAST)", BAD, RefusalsTest::full, x -> x.row(-1, LEAST));
        for (int i : new int[] {-1, 60, LEAST, MOST}) {
            finds("lay, place " + i, BEYOND, RefusalsTest::full, x -> x.lay(2, i, 5));
            finds("at, place " + i, BEYOND, RefusalsTest::full, x -> x.at(2, i));
            finds("lay, no ROW, place " + i, NOTHING, RefusalsTest::withoutRow, x -> x.lay(4, i, 5));
            finds("at, no ROW, place " + i, NOTHING, RefusalsTest::withoutRow, x -> x.at(4, i));
            refused("lay, ROW 6, place " + i, BAD, RefusalsTest::full, x -> x.lay(6, i, 5));
            refused("at, ROW -1, place " + i, BAD, RefusalsTest::full, x -> x.at(-1, i));
            finds("copy from " + i, BEYOND, RefusalsTest::full, x -> x.copy(2, i, 3, 0, 1));
            finds("copy to " + i, BEYOND, RefusalsTest::full, x -> x.copy(2, 0, 3, i, 1));
        }
        finds("tear, no ROW", NOTHING, RefusalsTest::withoutRow, x -> x.tear(4));
        finds("mean, no ROW", NOTHING, RefusalsTest::withoutRow, x -> x.mean(4));
    }

    /** SIZE, NOTHING, BEYOND of copy(), each where all behind it would fit, too. */
    private static void ofCopy() {
        c.at("promise 6");
        for (int n : new int[] {-1, LEAST}) {
            refused("copy, ROW 6, n " + n, BAD, RefusalsTest::withoutRow, x -> x.copy(6, -1, 4, -1, n));
            refused("copy, to ROW 6, n " + n, BAD, RefusalsTest::withoutRow, x -> x.copy(4, -1, 6, -1, n));
            finds("copy, neither ROW, n " + n, SIZE, SnowHouse::new, x -> x.copy(4, -1, 4, -1, n));
            finds("copy, no place, n " + n, SIZE, RefusalsTest::full, x -> x.copy(2, 61, 2, 61, n));
        }
        finds("copy, no ROW, no place", NOTHING, RefusalsTest::withoutRow, x -> x.copy(4, -1, 2, 61, 0));
        finds("copy, no ROW to come to, no place", NOTHING, RefusalsTest::withoutRow, x -> x.copy(2, -1, 4, 61, 9));
        for (int i : new int[] {-1, 61, LEAST, MOST}) {
            finds("copy none from " + i, BEYOND, RefusalsTest::full, x -> x.copy(2, i, 3, 0, 0));
            finds("copy none to " + i, BEYOND, RefusalsTest::full, x -> x.copy(2, 0, 3, i, 0));
        }
        c.taken(RefusalsTest::full, "copy none from 60 to 60", x -> x.copy(2, 60, 3, 60, 0));
        c.taken(RefusalsTest::full, "copy the last one", x -> x.copy(2, 59, 3, 59, 1));
        finds("copy 61", BEYOND, RefusalsTest::full, x -> x.copy(2, 0, 3, 0, 61));
        finds("copy MOST", BEYOND, RefusalsTest::full, x -> x.copy(2, 0, 2, 0, MOST));
        finds("copy MOST from 60", BEYOND, RefusalsTest::full, x -> x.copy(2, 60, 2, 60, MOST));
        finds("copy MOST from MOST", BEYOND, RefusalsTest::full, x -> x.copy(2, MOST, 2, MOST, MOST));
        finds("copy 60 from 1", BEYOND, RefusalsTest::full, x -> x.copy(2, 1, 3, 0, 60));
        finds("copy 60 to 1", BEYOND, RefusalsTest::full, x -> x.copy(2, 0, 3, 1, 60));
    }

    private static void ofMean() {
        c.at("promise 7");
        Supplier<SnowHouse> hollow = () -> {
            SnowHouse x = full();
            x.row(4, 0);
            return x;
        };
        finds("mean, an empty ROW", NOUGHT, hollow, x -> x.mean(4));
        finds("lay, an empty ROW", BEYOND, hollow, x -> x.lay(4, 0, 1));
        finds("at, an empty ROW", BEYOND, hollow, x -> x.at(4, 0));
        c.taken(hollow, "tear, an empty ROW", x -> x.tear(4));
        c.taken(hollow, "copy none, an empty ROW", x -> x.copy(4, 0, 4, 0, 0));
        finds("copy one, an empty ROW", BEYOND, hollow, x -> x.copy(4, 0, 3, 0, 1));
        finds("copy one to an empty ROW", BEYOND, hollow, x -> x.copy(3, 0, 4, 0, 1));
        finds("copy none from 1, an empty ROW", BEYOND, hollow, x -> x.copy(4, 1, 3, 0, 0));
    }

    private static void ofTexts() {
        c.at("promises 8 to 12");
        c.taken(RefusalsTest::full, "text(2, 0)", x -> x.text(2, 0));
        finds("text(0, -1)", SIZE, RefusalsTest::full, x -> x.text(0, -1));
        finds("text(3, LEAST), a new object", SIZE, SnowHouse::new, x -> x.text(3, LEAST));
        refused("text(4, -1)", BAD, RefusalsTest::full, x -> x.text(4, -1));
        refused("text(-1, LEAST)", BAD, RefusalsTest::full, x -> x.text(-1, LEAST));
        Supplier<SnowHouse> said = () -> full("r1:0");
        for (int t : new int[] {0, 3}) {
            c.taken(said, "plan, TEXT " + t, x -> x.plan(2, t));
            c.taken(said, "plan " + t, x -> x.plan(t, 2));
            c.taken(said, "put, TEXT " + t, x -> x.put(t, 3, 5));
            refused("fault of a PLAN, TEXT " + t, NONE, said, x -> x.fault(t, true));
            refused("fault of a SNOW, TEXT " + t, NONE, RefusalsTest::full, x -> x.fault(t, false));
            finds("plan, no TEXT " + t, NOTHING, SnowHouse::new, x -> x.plan(3, t));
            finds("put, no TEXT " + t, NOTHING, SnowHouse::new, x -> x.put(t, -1, 0));
            finds("fault of a SNOW, no TEXT " + t, NOTHING, SnowHouse::new, x -> x.fault(t, false));
            refused("snow with a FAULT", STATE, said, x -> x.snow(t, t));
            refused("plan with a FAULT", STATE, RefusalsTest::full, x -> x.plan(t, t));
        }
        for (int k : new int[] {-1, 4, LEAST, MOST}) {
            for (Supplier<SnowHouse> maker : List.<Supplier<SnowHouse>>of(said, RefusalsTest::full, SnowHouse::new)) {
                refused("snow " + k, BAD, maker, x -> x.snow(k, 0));
                refused("snow by TEXT " + k, BAD, maker, x -> x.snow(0, k));
                refused("plan " + k, BAD, maker, x -> x.plan(k, 0));
                refused("plan by TEXT " + k, BAD, maker, x -> x.plan(0, k));
                refused("fault of a SNOW, TEXT " + k, BAD, maker, x -> x.fault(k, false));
                refused("put, TEXT " + k, BAD, maker, x -> x.put(k, -1, 5));
            }
        }
        for (int i : new int[] {-1, 4, LEAST, MOST}) finds("put, place " + i, BEYOND, said, x -> x.put(2, i, 5));
        finds("put, an empty TEXT", BEYOND, RefusalsTest::full, x -> x.put(2, 0, 5));
    }

    private static void ofPlans() {
        c.at("promises 13 to 16");
        for (int y : new int[] {-1, 8, LEAST, MOST}) {
            finds("course " + y, BEYOND, RefusalsTest::full, x -> x.course(2, y));
            finds("course " + y + ", no PLAN", NOTHING, SnowHouse::new, x -> x.course(2, y));
            refused("course " + y + ", PLAN 4", BAD, RefusalsTest::full, x -> x.course(4, y));
        }
        Supplier<SnowHouse> snowed = () -> {
            SnowHouse x = new SnowHouse();
            Check.snow(x, 1, "");
            return x;
        };
        Supplier<SnowHouse> planned = () -> {
            SnowHouse x = new SnowHouse();
            Check.plan(x, 1, "r2:0");
            return x;
        };
        finds("house, no PLAN", NOTHING, snowed, x -> x.house(1, 1, 1));
        finds("house, no SNOW", NOTHING, planned, x -> x.house(1, 1, 1));
        finds("storm, no PLAN", NOTHING, snowed, x -> x.storm(1, 1, 600, 0));
        finds("storm, no SNOW", NOTHING, planned, x -> x.storm(1, 1, 600, 0));
        finds("halls, no PLAN", NOTHING, snowed, x -> x.halls(1, 1, 0));
        finds("halls, no SNOW", NOTHING, planned, x -> x.halls(1, 1, 0));
        finds("quarry, no PLAN", NOTHING, snowed, x -> x.quarry(1));
        refused("house by 3, no PLAN", BAD, snowed, x -> x.house(1, 1, 3));
        refused("house by 0, no SNOW", BAD, planned, x -> x.house(1, 1, 0));
    }

    private static SnowHouse begun() {
        SnowHouse x = full();
        x.on(0);
        return x;
    }

    private static SnowHouse fifty() {
        SnowHouse x = full();
        Check.plan(x, 1, "r12:0r12:0r12:0r12:0r2:0");
        x.house(1, 1, 1);
        return x;
    }

    private static void ofGo() {
        c.at("promise 17");
        for (int n : new int[] {-1, 61, LEAST, MOST}) {
            refused("go(" + n + "), no HOUSE", BAD, SnowHouse::new, x -> x.go(n));
            refused("go(" + n + ")", BAD, RefusalsTest::begun, x -> x.go(n));
            refused("go(" + n + "), all LAID", BAD, RefusalsTest::full, x -> x.go(n));
        }
        for (int n : new int[] {0, 1, 60}) refused("go(" + n + "), no HOUSE", STATE, SnowHouse::new, x -> x.go(n));
        c.taken(RefusalsTest::begun, "go(60)", x -> x.go(60));
        c.taken(RefusalsTest::begun, "go(0)", x -> x.go(0));
        c.taken(RefusalsTest::full, "go(0), all LAID", x -> x.go(0));
        c.taken(RefusalsTest::fifty, "go(50) of 50", x -> x.go(50));
        refused("go(51) of 50", SPENT, RefusalsTest::fifty, x -> x.go(51));
        refused("go(60) of 50", SPENT, RefusalsTest::fifty, x -> x.go(60));
        refused("go(1), all LAID", SPENT, RefusalsTest::full, x -> x.go(1));
    }

    private static void ofBlocks() {
        c.at("promises 18 to 20");
        Supplier<SnowHouse> half = () -> {
            SnowHouse x = full();
            x.on(1);
            return x;
        };
        for (int i : new int[] {0, 19}) {
            c.taken(half, "block(" + i + ", 1)", x -> x.block(i, 1));
            c.taken(half, "pull(" + i + ")", x -> x.pull(i));
        }
        c.taken(half, "mark(0, 1)", x -> x.mark(0, 1));
        c.taken(half, "mark(19, 3)", x -> x.mark(19, 3));
        for (int kind : new int[] {2, 3, 4, 5, 6}) finds("mark(0, " + kind + ")", UNLIKE, half, x -> x.mark(0, kind));
        for (int i : new int[] {-1, 20, 59, 60, LEAST, MOST}) {
            refused("block(" + i + ", 1)", BAD, half, x -> x.block(i, 1));
            refused("pull(" + i + ")", BAD, half, x -> x.pull(i));
            for (int kind : new int[] {1, 3, 6}) refused("mark(" + i + ")", BAD, half, x -> x.mark(i, kind));
        }
        for (int kind : new int[] {-1, 0, 7, LEAST, MOST}) {
            refused("mark(0, " + kind + ")", BAD, half, x -> x.mark(0, kind));
            refused("mark(0, " + kind + "), no HOUSE", BAD, SnowHouse::new, x -> x.mark(0, kind));
        }
        for (int i : new int[] {-1, 0}) {
            refused("block(" + i + ", 0), none LAID", BAD, RefusalsTest::begun, x -> x.block(i, 0));
            refused("pull(" + i + "), none LAID", BAD, RefusalsTest::begun, x -> x.pull(i));
            refused("mark(" + i + ", 1), none LAID", BAD, RefusalsTest::begun, x -> x.mark(i, 1));
        }
        refused("mark(0, 1), no HOUSE", BAD, SnowHouse::new, x -> x.mark(0, 1));
    }

    /** COURSE 0 has 2 BLOCKS that SLUMP, and one behind them that does not, or else all stand. */
    private static SnowHouse small(boolean falls, int laid) {
        SnowHouse x = Check.begun(falls ? "r0c0w9" : "r9", falls ? "r2:9" : "r2:0r1:0", 1);
        x.go(laid);
        return x;
    }

    private static void ofDoor() {
        c.at("promise 21");
        Supplier<SnowHouse> all = () -> small(false, 3);
        Supplier<SnowHouse> cut = () -> {
            SnowHouse x = all.get();
            x.door(1);
            return x;
        };
        for (int p : new int[] {-1, 12, LEAST, MOST}) {
            refused("door(" + p + "), not all LAID", BAD, () -> small(false, 2), x -> x.door(p));
            refused("door(" + p + "), one is CUT", BAD, cut, x -> x.door(p));
            refused("door(" + p + ")", BAD, all, x -> x.door(p));
        }
        for (int p : new int[] {0, 1, 2, 11}) {
            refused("door(" + p + "), none LAID", STATE, () -> small(false, 0), x -> x.door(p));
            refused("door(" + p + "), not all LAID", STATE, () -> small(false, 2), x -> x.door(p));
            refused("door(" + p + "), not all LAID, SLUMPED", STATE, () -> small(true, 1), x -> x.door(p));
            refused("door(" + p + "), one is CUT", STATE, cut, x -> x.door(p));
        }
        for (int p : new int[] {2, 11}) {
            refused("door(" + p + "), no such place", BAD, all, x -> x.door(p));
            refused("door(" + p + "), no such place, all SLUMPED", BAD, () -> small(true, 2), x -> x.door(p));
        }
        for (int p : new int[] {0, 1}) {
            c.taken(all, "door(" + p + ")", x -> x.door(p));
            finds("door(" + p + "), SLUMPED", UNLIKE, () -> small(true, 2), x -> x.door(p));
        }
    }

    private static void ofStands() {
        c.at("promises 22 to 31");
        refused("slumped(), no HOUSE", STATE, SnowHouse::new, SnowHouse::slumped);
        refused("falls(), no HOUSE", STATE, SnowHouse::new, SnowHouse::falls);
        refused("slow(), no HOUSE", STATE, SnowHouse::new, SnowHouse::slow);
        refused("spiral(), no HOUSE", STATE, SnowHouse::new, SnowHouse::spiral);
        refused("odds(), no HOUSE", STATE, SnowHouse::new, SnowHouse::odds);
        Supplier<SnowHouse> two = () -> small(false, 1);
        for (int y : new int[] {0, 1}) c.taken(two, "lean(" + y + ")", x -> x.lean(y));
        for (int y : new int[] {2, 7}) finds("lean(" + y + ")", BEYOND, two, x -> x.lean(y));
        for (int y : new int[] {-1, 8}) refused("lean(" + y + ")", BAD, two, x -> x.lean(y));
        refused("lean(7), no HOUSE", STATE, SnowHouse::new, x -> x.lean(7));
        for (int k : new int[] {0, 2}) finds("on(" + k + "), none kept there", NOTHING, two, x -> x.on(k));
    }

    private static void ofFell() {
        c.at("promise 30");
        Supplier<SnowHouse> homeless = () -> {
            SnowHouse x = new SnowHouse();
            Check.fill(x, 0, 2, 2);
            return x;
        };
        refused("fell, no HOUSE, a ROW of 2", STATE, homeless, x -> x.fell(0));
        refused("fell, no HOUSE, no ROW", STATE, homeless, x -> x.fell(5));
        refused("fell, no HOUSE, ROW 6", BAD, homeless, x -> x.fell(6));
        int[][] uneven = {{}, {0, 0}, {1, 2}, {0, 0, 0, 0}, {3, 3, 3, 3}};
        for (int[] row : uneven) finds("fell, not as many", SIZE, () -> told(row), x -> x.fell(3));
        int[][] unlike = {{0, 0, 2}, {-1, 0, 0}, {0, MOST, 0}, {1, 1, LEAST}, {1, 0, 256}};
        for (int[] row : unlike) finds("fell, neither 1 nor 0", UNLIKE, () -> told(row), x -> x.fell(3));
        finds("fell, no ROW", NOTHING, () -> told(0, 0, 0), x -> x.fell(4));
        refused("fell, ROW -1", BAD, () -> told(2), x -> x.fell(-1));
        refused("fell, by no SLIP", NONE, () -> told(1, 1, 0), x -> x.fell(3));
        c.taken(() -> told(0, 0, 0), "fell, none SLUMPED", x -> x.fell(3));
    }

    private static SnowHouse told(int... row) {
        SnowHouse x = small(false, 2);
        Check.fill(x, 3, row);
        return x;
    }

    /** A NONE changes nothing: a ROW that halls() was to fill stays as it is, there or missing. */
    private static void ofNone() {
        c.at("NONE");
        Supplier<SnowHouse> lone = () -> {
            SnowHouse x = full();
            Check.write(x, 0, "r1:0");
            for (int k = 0; k < 4; k++) x.plan(k, 0);
            Check.fill(x, 2, 4, 5, 6);
            x.tear(3);
            return x;
        };
        refused("halls, a ROW stays", NONE, lone, x -> x.halls(0, 1, 2));
        refused("halls, a missing ROW stays missing", NONE, lone, x -> x.halls(0, 1, 3));
        refused("storm, no PLACES", NONE, lone, x -> x.storm(0, 1, 600, 1));
        refused("storm, no MINUTES", NONE, lone, x -> x.storm(0, 1, 0, 0));
        for (int t : new int[] {-1, LEAST}) refused("storm in " + t, BAD, lone, x -> x.storm(0, 1, t, 0));
        refused("falls, it STANDS", NONE, RefusalsTest::full, SnowHouse::falls);
    }

    public static void main(String[] args) {
        addRows();
        addHouses();
        addStands();
        addIndoors();
        edges();
        ofRows();
        ofCopy();
        ofMean();
        ofTexts();
        ofPlans();
        ofGo();
        ofBlocks();
        ofDoor();
        ofStands();
        ofFell();
        ofNone();
        c.end("RefusalsTest");
    }
}
