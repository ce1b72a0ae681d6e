/** Promises 25 to 34: whether it STANDS, SLIPS, forms. What is due is worked out by hand from "Terms". */
final class StandsTest {
    private static final int BAD = SnowHouse.BAD, STATE = SnowHouse.STATE, NONE = SnowHouse.NONE;
    private static final int NOTHING = 1, BEYOND = 2, UNLIKE = 3, SIZE = 5;
    private static final Check c = new Check();

    /** HEAVY 2 and COLD 0: PULL is the LEAN and what lies on a BLOCK, and nothing freezes. */
    private static final String STILL = "r4c0w2";

    private static SnowHouse empty() {
        return new SnowHouse();
    }

    private static void promise25() {
        c.at("promise 25");
        SnowHouse none = empty();
        c.refused(none, "falls(), no HOUSE", none::falls, STATE);
        SnowHouse x = Check.begun(STILL, "r2:4 r2:4 r1:9 r1:0", 1);
        c.due(x, "falls()", x.falls(), 4, 4);
        c.due("count(2), the HOUSE as it is", x.count(2), 0);
        x.go(6);
        x.door(0);
        c.due(x, "falls(), no door is cut", x.falls(), 4, 4);
        c.due("count(3), the HOUSE as it is", x.count(3), 5);
        SnowHouse least = Check.begun("r1c0w2", "r1:4r1:9", 1);
        c.due(least, "falls(), the least of two", least.falls(), 1, 0);
        SnowHouse y = Check.begun(STILL, "r2:4 r2:4 r1:6 r1:0", 1);
        c.refused(y, "falls(), it STANDS", y::falls, NONE);
        SnowHouse first = Check.begun(STILL, "r3:4 r12:0", 1);
        c.due(first, "falls(), by what lies on the first below", first.falls(), 10, 1);
        SnowHouse next = Check.begun("r4c3w2", "m:1 r2:4 r12:0", 1);
        c.due(next, "falls(), by what lies on the next below", next.falls(), 7, 1);
        c.due("pace(1), all but BLOCK 0", next.pace(1), 13);
        SnowHouse alone = Check.begun("r0c0w2", "r1:3r1:0", 1);
        c.due(alone, "falls(), 1 BUILDER", alone.falls(), 1, 0);
        SnowHouse two = Check.begun("r0c0w2", "r1:3r1:0", 2);
        c.refused(two, "falls(), 2 BUILDERS", two::falls, NONE);
    }

    private static void promise26() {
        c.at("promise 26");
        SnowHouse none = empty();
        c.refused(none, "pace(0), no HOUSE", () -> none.pace(0), BAD);
        c.refused(none, "pace(10), no HOUSE", () -> none.pace(10), BAD);
        c.refused(none, "pace(1), no HOUSE", () -> none.pace(1), STATE);
        SnowHouse x = Check.begun("r0c10w2g30", "r1:3r1:0m:3", 1);
        x.about(0, 2);
        c.due(x, "pace(1)", x.pace(1), 2, 10);
        c.due(x, "pace(2)", x.pace(2), 0, 10);
        c.due(x, "pace(9)", x.pace(9), 0, 10);
        c.refused(x, "pace(0)", () -> x.pace(0), BAD);
        c.refused(x, "pace(10)", () -> x.pace(10), BAD);
        c.due("go(2), by its own MINUTES", x.go(2), 2);
        c.due("count(3)", x.count(3), 0);
    }

    private static void promise27() {
        c.at("promise 27");
        SnowHouse none = empty();
        c.refused(none, "lean(8), no HOUSE", () -> none.lean(8), BAD);
        c.refused(none, "lean(-1), no HOUSE", () -> none.lean(-1), BAD);
        c.refused(none, "lean(0), no HOUSE", () -> none.lean(0), STATE);
        SnowHouse x = Check.begun(STILL, "r2:4 r2:4 r1:6 r1:0", 1);
        x.about(0, 0);
        int[] most = {4, 4, 6, 7};
        for (int y = 0; y < 4; y++) c.due(x, "lean(" + y + ")", x.lean(y), most[y], 12);
        c.finds(x, "lean(4)", () -> x.lean(4), BEYOND);
        c.finds(x, "lean(7)", () -> x.lean(7), BEYOND);
        c.refused(x, "lean(8)", () -> x.lean(8), BAD);
        c.refused(x, "lean(-1)", () -> x.lean(-1), BAD);
        SnowHouse f = Check.begun(STILL, "r2:4 r2:4 r1:9 r1:0", 1);
        c.due("lean(2), of one that falls", f.lean(2), 6);
        c.refused(f, "lean(0), by none", () -> f.lean(0), NONE);
        c.refused(f, "lean(3), by none", () -> f.lean(3), NONE);
        SnowHouse wide = Check.begun("r9w1", "r12:0", 1);
        c.due("lean(0), the most that there is", wide.lean(0), 9);
        SnowHouse none0 = Check.begun("r0c0w2", "r2:5", 1);
        c.due("lean(0), the least that there is", none0.lean(0), 0);
    }

    private static void promise28() {
        c.at("promise 28");
        SnowHouse none = empty();
        c.refused(none, "slow(), no HOUSE", none::slow, STATE);
        SnowHouse x = Check.begun("r0c10w2g30", "r1:3r1:0m:3", 1);
        c.due(x, "slow()", x.slow(), 2, 7);
        SnowHouse one = Check.begun("r0c10w2g30", "r1:3r1:0m:1", 1);
        c.due(one, "slow(), of one that falls", one.slow(), 2, 20);
        SnowHouse any = Check.begun(STILL, "r2:4 r2:4 r1:6 r1:0", 1);
        c.due(any, "slow(), any", any.slow(), 1, 0);
        SnowHouse f = Check.begun(STILL, "r2:4 r2:4 r1:9 r1:0", 1);
        f.about(0, 1);
        c.refused(f, "slow(), by none", f::slow, NONE);
    }

    private static void promise29() {
        c.at("promise 29");
        SnowHouse none = empty();
        c.refused(none, "spiral(), no HOUSE", none::spiral, STATE);
        SnowHouse x = Check.begun("r2c0w2", "r2:2 r2:4", 1);
        c.due(x, "spiral()", x.spiral(), 2, 0);
        SnowHouse s = Check.begun("r2c0w2", "s2:2 s2:4", 1);
        c.due(s, "spiral(), of SPIRALS", s.spiral(), 2, 0);
        SnowHouse f = Check.begun("r0c0w9", "s1:9", 1);
        c.due(f, "spiral(), one falls by any", f.spiral(), 0, 1);
        SnowHouse below = Check.begun("r0c0w2", "r1:3 r1:0", 1);
        c.due(below, "spiral(), COURSE 0", below.spiral(), 1, 0);
        SnowHouse least = Check.begun("r0c0w2", "s1:3 s1:0", 1);
        c.due(least, "spiral(), the least bits", least.spiral(), 1, 0);
        SnowHouse all = Check.begun("r0c0w9", "r12:9".repeat(5), 1);
        c.due(all, "spiral(), all fall", all.spiral(), 0, 60);
        SnowHouse ring = Check.begun(STILL, "s3:0", 1);
        c.due(ring, "spiral(), a RING does", ring.spiral(), 0, 0);
        ring.go(3);
        c.due(ring, "pull(0), the HOUSE as it is", ring.pull(0), 0, 9);
    }

    private static void promise30() {
        c.at("promise 30");
        SnowHouse none = empty();
        c.refused(none, "fell(6), no HOUSE", () -> none.fell(6), BAD);
        c.refused(none, "fell(-1), no HOUSE", () -> none.fell(-1), BAD);
        c.refused(none, "fell(0), no HOUSE", () -> none.fell(0), STATE);
        SnowHouse x = Check.begun("r2c0w2", "r2:2 r2:4", 1);
        c.finds(x, "fell(0), no ROW", () -> x.fell(0), NOTHING);
        Check.fill(x, 0, 0, 0, 1, 1);
        c.due(x, "fell(0), the upper two", x.fell(0), 2, 6);
        Check.fill(x, 5, 1, 1, 1, 1);
        c.due(x, "fell(5), all", x.fell(5), 0, 2);
        Check.fill(x, 0, 0, 0, 0, 0);
        x.about(0, 1);
        c.refused(x, "fell(0), none", () -> x.fell(0), NONE);
        Check.fill(x, 0, 0, 0, 0, 1);
        c.refused(x, "fell(0), one", () -> x.fell(0), NONE);
        Check.fill(x, 0, 1, 1, 0, 0);
        c.refused(x, "fell(0), the lower two", () -> x.fell(0), NONE);
        Check.fill(x, 1, 0, 0, 2, 1);
        c.finds(x, "fell(1), a 2", () -> x.fell(1), UNLIKE);
        Check.fill(x, 1, 0, 0, -1, 1);
        c.finds(x, "fell(1), a -1", () -> x.fell(1), UNLIKE);
        Check.fill(x, 1, 2, 2, 2);
        c.finds(x, "fell(1), too few", () -> x.fell(1), SIZE);
        x.row(1, 0);
        c.finds(x, "fell(1), an empty ROW", () -> x.fell(1), SIZE);
        Check.fill(x, 1, 0, 0, 1, 1, 0);
        c.finds(x, "fell(1), too many", () -> x.fell(1), SIZE);
        c.refused(x, "fell(6)", () -> x.fell(6), BAD);
        SnowHouse m = Check.begun("r0c10w2g30", "r1:3r1:0m:2", 1);
        Check.fill(m, 2, 1, 1);
        c.due(m, "fell(2), MINUTES too", m.fell(2), 0, 3);
        Check.fill(m, 2, 0, 0);
        c.due(m, "fell(2), none falls", m.fell(2), 2, 4);
    }

    /** LEAN 9 of HEAVY 1 pulls 4, as 8 does: only MINUTES matter. */
    private static void slipsOfMinutes() {
        SnowHouse x = Check.begun("g30r1c10w1", "r1:9 r1:0 m:2", 1);
        Check.fill(x, 0, 1, 1);
        c.due(x, "fell(0), MINUTES one less", x.fell(0), 80, 1);
        Check.fill(x, 0, 0, 0);
        c.due(x, "fell(0), none falls", x.fell(0), 2, 4);
        Check.plan(x, 0, "r1:9 r1:0 m:1");
        x.house(0, 0, 1);
        c.due(x, "fell(0), MINUTES one more", x.fell(0), 90, 1);
    }

    private static void part(SnowHouse x, String call, int slips, long upper, long lower) {
        c.due(call, x.odds(), slips);
        c.due(call + ", upper()", x.upper(), upper);
        c.due(call + ", lower()", x.lower(), lower);
    }

    private static void promise31() {
        c.at("promise 31");
        SnowHouse none = empty();
        c.refused(none, "odds(), no HOUSE", none::odds, STATE);
        part(Check.begun("r2c0w2", "r2:2 s2:4", 1), "odds(), half of 8", 8, 1, 2);
        part(Check.begun("r2c0w2", "r2:2 r2:4", 1), "odds(), none of 8", 8, 0, 1);
        part(Check.begun("r9w1", "r2:0", 1), "odds(), all of 4", 4, 1, 1);
        part(Check.begun("r0c0w9", "r1:9 r1:8 r1:0 m:1", 1), "odds(), the edges, MINUTES 1", 6, 0, 1);
        part(Check.begun("r0c0w9", "r1:9 r1:8 r1:0 m:9", 1), "odds(), the edges, MINUTES 9", 6, 0, 1);
        part(Check.begun("r9w1", "r1:5 ".repeat(8), 1), "odds(), all COURSES", 26, 1, 1);
        part(Check.begun("r0c10w2g30", "r1:3r1:0m:2", 1), "odds(), 4 of 7", 7, 4, 7);
        SnowHouse x = Check.begun("r2c0w2", "r2:2 s2:4", 1);
        x.about(0, 3);
        x.odds();
        c.due("asked() stays", x.asked(), 2);
    }

    private static SnowHouse stormy() {
        SnowHouse x = new SnowHouse();
        Check.snow(x, 0, STILL);
        Check.plan(x, 0, "r6:0 m:3");
        Check.plan(x, 1, "r4:9");
        Check.plan(x, 2, "r4:0 r1:0 m:3");
        Check.plan(x, 3, "r5:4");
        return x;
    }

    private static void promise32() {
        c.at("promise 32");
        SnowHouse x = stormy();
        c.due(x, "storm(0, 1, 600, 0)", x.storm(0, 1, 600, 0), 2, 15);
        c.due(x, "storm(0, 1, 15, 0)", x.storm(0, 1, 15, 0), 2, 15);
        c.due(x, "storm(0, 1, 14, 0)", x.storm(0, 1, 14, 0), 3, 10);
        c.due(x, "storm(0, 1, 600, 3)", x.storm(0, 1, 600, 3), 0, 18);
        c.due(x, "storm(0, 2, 9, 3)", x.storm(0, 2, 9, 3), 0, 9);
        c.due(x, "storm(0, 2, 8, 2)", x.storm(0, 2, 8, 2), 2, 8);
        c.due(x, "storm(0, 2, 7, 2)", x.storm(0, 2, 7, 2), 3, 5);
        c.refused(x, "storm(0, 1, 17, 3)", () -> x.storm(0, 1, 17, 3), NONE);
        c.refused(x, "storm(0, 2, 4, 0)", () -> x.storm(0, 2, 4, 0), NONE);
        c.refused(x, "storm(0, 1, 0, 0)", () -> x.storm(0, 1, 0, 0), NONE);
        c.refused(x, "storm(0, 1, 600, 4)", () -> x.storm(0, 1, 600, 4), NONE);
        int[][] bad = {{4, 1, 1, 1}, {-1, 1, 1, 1}, {0, 0, 1, 1}, {0, 3, 1, 1}, {0, 1, -1, 1}, {0, 1, 601, 1}, {0, 1, 1, -1}, {1, 1, 1, 7}};
        for (int[] b : bad) c.refused(x, "storm", () -> x.storm(b[0], b[1], b[2], b[3]), BAD);
        c.finds(x, "storm(1, 1, 1, 1), no SNOW", () -> x.storm(1, 1, 1, 1), NOTHING);
        SnowHouse y = new SnowHouse();
        Check.snow(y, 0, "r0c0w2");
        c.finds(y, "storm(0, 1, 1, 1), no PLAN", () -> y.storm(0, 1, 1, 1), NOTHING);
        Check.plan(y, 3, "r1:3r1:0m:5");
        c.refused(y, "storm(0, 1, 600, 0), falls", () -> y.storm(0, 1, 600, 0), NONE);
        c.due(y, "storm(0, 2, 600, 0), STANDS", y.storm(0, 2, 600, 0), 3, 5);
    }

    private static void shares(SnowHouse x, int n, int blocks, int... halls) {
        String call = "halls(0, " + n + ", 4)";
        int asked = x.asked();
        c.due(x, call, x.halls(0, n, 4), blocks, asked);
        for (int k = 0; k < 4; k++) c.due(x, call + ", PLAN " + k, x.at(4, k), 1, halls[k]);
        c.due(call + ", size", x.at(4, 4), -3);
    }

    private static void promise33() {
        c.at("promise 33");
        SnowHouse x = new SnowHouse();
        Check.snow(x, 0, STILL);
        c.finds(x, "halls(0, 1, 4), no PLAN", () -> x.halls(0, 1, 4), NOTHING);
        Check.plan(x, 1, "r4:9");
        c.refused(x, "halls(0, 1, 4), it falls", () -> x.halls(0, 1, 4), NONE);
        Check.plan(x, 3, "r1:0");
        c.refused(x, "halls(0, 1, 4), no PLACES", () -> x.halls(0, 1, 4), NONE);
        Check.plan(x, 0, "r6:0");
        Check.plan(x, 2, "r4:0");
        Check.plan(x, 3, "r3:0");
        shares(x, 1, 3, 0, 0, 0, 1);
        shares(x, 5, 10, 1, 0, 1, 0);
        shares(x, 6, 12, 0, 0, 3, 0);
        shares(x, 7, 14, 1, 0, 2, 0);
        shares(x, 9, 18, 1, 0, 3, 0);
        shares(x, 40, 80, 0, 0, 20, 0);
        Check.plan(x, 3, "r2:0");
        shares(x, 6, 12, 0, 0, 0, 6);
        x.row(4, 60);
        x.lay(4, 59, 1);
        shares(x, 1, 2, 0, 0, 0, 1);
        int[][] bad = {{4, 1, 0}, {-1, 1, 0}, {0, 0, 0}, {1, 41, 0}, {0, 1, 6}, {0, 1, -1}};
        for (int[] b : bad) c.refused(x, "halls", () -> x.halls(b[0], b[1], b[2]), BAD);
        c.finds(x, "halls(1, 1, 0), no SNOW", () -> x.halls(1, 1, 0), NOTHING);
        SnowHouse wide = new SnowHouse();
        Check.snow(wide, 0, STILL);
        Check.plan(wide, 0, "r12:0");
        shares(wide, 7, 24, 2, 0, 0, 0);
        SnowHouse y = new SnowHouse();
        Check.snow(y, 0, "r0c0w2");
        Check.plan(y, 0, "r2:0r1:3r1:0");
        y.row(4, 2);
        c.refused(y, "halls(0, 1, 4), by 1 BUILDER it falls", () -> y.halls(0, 1, 4), NONE);
    }

    private static void promise34() {
        c.at("promise 34");
        SnowHouse x = new SnowHouse();
        Check.plan(x, 0, "r8:0s7:3s6:5m:3 s4:7 r1:9");
        Check.plan(x, 1, "r5:0 r3:0");
        Check.plan(x, 2, "r12:0");
        c.due(x, "quarry(0)", x.quarry(0), 16, 10);
        c.due(x, "quarry(1)", x.quarry(1), 6, 2);
        c.due(x, "quarry(2)", x.quarry(2), 36, 0);
        c.finds(x, "quarry(3)", () -> x.quarry(3), NOTHING);
        c.refused(x, "quarry(4)", () -> x.quarry(4), BAD);
        c.refused(x, "quarry(-1)", () -> x.quarry(-1), BAD);
        Check.plan(x, 3, "s1:0");
        c.due(x, "quarry(3)", x.quarry(3), 0, 1);
    }

    public static void main(String[] args) {
        promise25();
        promise26();
        promise27();
        promise28();
        promise29();
        promise30();
        slipsOfMinutes();
        promise31();
        promise32();
        promise33();
        promise34();
        c.end("StandsTest");
    }
}
