/** The edges of what STANDS, SLIPS, storms, halls and quarries (promises 25 to 34), worked out by hand. */
final class StandEdgesTest {
    private static final int NONE = SnowHouse.NONE;
    private static final Check c = new Check();

    /** HEAVY 2 and COLD 0: PULL is the LEAN and what lies on a BLOCK, and nothing freezes. */
    private static final String STILL = "r4c0w2";

    /** All of seven lie on BLOCK 0, which holds 4 and what is FROZEN: it needs 7 MINUTES COLD / 20 to be 3. */
    private static final String SEVEN = "r1:0r7:0";

    private static void falls() {
        c.at("promise 25");
        SnowHouse first = Check.begun("r0c0w2", "r2:1", 1);
        c.due(first, "falls(), MOMENT 0", first.falls(), 0, 0);
        SnowHouse last = Check.begun("r9c0w3", "r12:0".repeat(4) + "r11:0r1:9", 1);
        c.due(last, "falls(), MOMENT 59", last.falls(), 59, 59);
        c.due("count(2), the HOUSE as it is stays", last.count(2), 0);
        SnowHouse key = Check.begun("r9c0w3", "r12:0".repeat(4) + "r11:0r1:8", 1);
        c.refused(key, "falls(), it STANDS", key::falls, NONE);
        SnowHouse least = Check.begun("r1c0w2", "r1:4r1:9", 1);
        c.due(least, "falls(), the least of two", least.falls(), 1, 0);
        SnowHouse mid = Check.begun(STILL, "r3:0s3:5r12:0", 1);
        c.due(mid, "falls(), while others go on", mid.falls(), 12, 4);
        mid.go(18);
        mid.door(0);
        long before = mid.digest();
        c.due(mid, "falls(), anew", mid.falls(), 12, 4);
        c.due("digest()", mid.digest(), before);
    }

    private static void pace() {
        c.at("promise 26");
        int[] slumped = {8, 8, 8, 8, 8, 8, 8, 8, 0};
        for (int v = 1; v <= 9; v++) {
            SnowHouse x = Check.begun("r1c1w2g30", SEVEN + "m:5", 1);
            c.due("pace(" + v + ")", x.pace(v), slumped[v - 1]);
            c.due("pace(" + v + "), its own MINUTES stay", x.falls(), 6);
        }
        SnowHouse x = Check.begun("r1c1w2g30", "r1:0r5:0", 1);
        int[] five = {6, 6, 6, 0, 0, 0, 0, 0, 0};
        for (int v = 1; v <= 9; v++) c.due("pace(" + v + ")", x.pace(v), five[v - 1]);
    }

    private static void lean() {
        c.at("promise 27");
        SnowHouse x = Check.begun("r0c0w2", "s1:3" + "s1:5".repeat(7), 1);
        for (int y = 0; y < 8; y++) c.due("lean(" + y + ")", x.lean(y), y == 0 ? 3 : 5);
        SnowHouse most = Check.begun("r9c0w1", "r1:0".repeat(8), 1);
        for (int y = 0; y < 8; y++) c.due("lean(" + y + "), the most", most.lean(y), 9);
        SnowHouse least = Check.begun("r0c0w9", "r1:0r2:0", 1);
        c.due("lean(1), the least", least.lean(1), 0);
        SnowHouse none = Check.begun("r0c0w9", "r1:1r2:0", 1);
        c.refused(none, "lean(1), by none", () -> none.lean(1), NONE);
        c.due("lean(0), of one that falls", none.lean(0), 0);
        SnowHouse anew = Check.built(STILL, "r1:6r1:7", 1);
        anew.door(0);
        c.due("lean(0), anew", anew.lean(0), 6);
        c.due("lean(1), anew", anew.lean(1), 7);
    }

    private static void slow(String snow, String plan, int minutes, int cold) {
        SnowHouse x = Check.begun(snow, plan, 1);
        c.due(x, "slow() by " + snow + ", " + plan, x.slow(), minutes, cold);
    }

    private static void slow() {
        c.at("promise 28");
        slow("r1c1w2g30", SEVEN + "m:1", 9, 9);
        slow("r1c1w2g30", SEVEN + "m:5", 9, 2);
        slow("r1c1w2g30", SEVEN + "m:9", 9, 1);
        slow("r1c9w2g30", SEVEN + "m:1", 1, 9);
        slow("r1c8w2g30", SEVEN + "m:1", 2, 9);
        slow("r1c1w2g3", SEVEN + "m:1", 9, 9);
        slow("r9c0w1", "r1:0", 1, 0);
        slow("r0c40w2g30", "r1:3r1:0m:1", 1, 20);
        slow("r0c20w2g30", "r1:3r1:0m:9", 1, 3);
        slow("r0c19w2g30", "r1:3r1:0m:1", 2, 20);
        SnowHouse eight = Check.begun("r1c1w2g30", "r1:0r8:0", 1);
        c.refused(eight, "slow(), by no MINUTES", eight::slow, NONE);
        SnowHouse coarse = Check.begun("r1c1w2g2", SEVEN, 1);
        c.refused(coarse, "slow(), by no MINUTES for want of GRAIN", coarse::slow, NONE);
        SnowHouse still = Check.begun("r1c0w2g30", SEVEN, 1);
        c.refused(still, "slow(), by no MINUTES for want of COLD", still::slow, NONE);
    }

    private static void spiral(String snow, String plan, int bits, int slumped) {
        SnowHouse x = Check.begun(snow, plan, 1);
        c.due(x, "spiral() by " + snow + ", " + plan, x.spiral(), bits, slumped);
    }

    private static void spiral() {
        c.at("promise 29");
        spiral("r0c0w2", "s1:3" + "s1:5".repeat(7), 255, 0);
        spiral("r0c0w2", "r1:3" + "r1:5".repeat(7), 255, 0);
        spiral("r0c0w2", "r1:0".repeat(7) + "r1:5", 128, 0);
        spiral("r0c0w2", "r1:0".repeat(7) + "r1:6", 0, 1);
        spiral("r0c0w2", "s1:0".repeat(8), 0, 0);
        spiral("r0c0w2", "r1:3", 0, 0);
        spiral("r0c0w2", "s1:4", 0, 1);
        spiral("r0c0w9", "s12:9".repeat(5), 0, 60);
        spiral("r0c0w2", "r1:3s1:0", 1, 0);
        spiral("r0c0w2", "r1:0s1:5r1:5", 6, 0);
    }

    private static void fell(String plan, int first, int slips, int... row) {
        SnowHouse x = Check.begun(STILL, plan, 1);
        Check.fill(x, 4, row);
        c.due(x, "fell(4) of " + plan, x.fell(4), first, slips);
    }

    private static void fell() {
        c.at("promise 30");
        String seven = "r1:0".repeat(7);
        fell(seven + "r1:6", 71, 1, 0, 0, 0, 0, 0, 0, 0, 1);
        fell(seven + "r1:7", 70, 2, 0, 0, 0, 0, 0, 0, 0, 1);
        fell(seven + "r1:8", 72, 1, 0, 0, 0, 0, 0, 0, 0, 0);
        fell(seven + "r1:8", 0, 17, 0, 0, 0, 0, 0, 0, 0, 1);
        fell(seven + "r1:6", 0, 18, 0, 0, 0, 0, 0, 0, 0, 0);
        fell("r1:6", 1, 1, 1);
        fell("r1:7", 0, 2, 1);
        fell("r1:8", 2, 1, 0);
        fell("r1:9", 2, 3, 1);
        fell("r1:6r1:7", 10, 2, 0, 1);
        fell("r1:6r1:6", 11, 1, 0, 1);
        fell("r1:6r1:8", 12, 1, 0, 0);
        SnowHouse all = Check.begun("r0c0w9", "r12:9".repeat(5), 1);
        all.row(4, 60);
        for (int i = 0; i < 60; i++) all.lay(4, i, 1);
        c.due(all, "fell(4), all of 60", all.fell(4), 2, 7);
    }

    private static void odds(String snow, String plan, int slips, long upper, long lower) {
        SnowHouse x = Check.begun(snow, plan, 1);
        c.due("odds() of " + plan, x.odds(), slips);
        c.due("upper() of " + plan, x.upper(), upper);
        c.due("lower() of " + plan, x.lower(), lower);
    }

    private static void odds() {
        c.at("promise 31");
        int[] ofLean = {2, 3, 3, 3, 3, 3, 3, 3, 2, 1};
        int[] ofMinutes = {0, 1, 2, 2, 2, 2, 2, 2, 2, 1};
        for (int l = 0; l <= 9; l++) {
            for (int v = 1; v <= 9; v++) odds("r9c0w1", "r1:" + l + "m:" + v, ofLean[l] + ofMinutes[v], 1, 1);
        }
        odds("r9c0w1", "r1:1".repeat(8) + "m:5", 26, 1, 1);
        odds("r0c0w9", "r1:9".repeat(8) + "m:9", 9, 0, 1);
        odds(STILL, "r1:6m:1", 4, 3, 4);
        odds(STILL, "r1:7m:1", 4, 1, 2);
        odds(STILL, "r1:6m:2", 5, 4, 5);
        odds(STILL, "r1:9m:2", 3, 0, 1);
        odds(STILL, "r1:8m:2", 4, 1, 4);
        odds(STILL, "r1:6r1:0m:1", 6, 2, 3);
        odds(STILL, "r1:6r1:6", 8, 5, 8);
        odds(STILL, "r1:6r1:7", 8, 1, 2);
        odds(STILL, "r1:0".repeat(7) + "r1:7", 19, 17, 19);
        odds(STILL, "r1:0".repeat(7) + "r1:8", 18, 1, 18);
        odds("r1c1w2g30", SEVEN + "m:9", 5, 1, 5);
        odds("r1c1w2g30", SEVEN + "m:8", 6, 1, 6);
    }

    private static SnowHouse drift(String snow, String... plans) {
        SnowHouse x = new SnowHouse();
        Check.snow(x, 3, snow);
        for (int k = 0; k < plans.length; k++) if (!plans[k].isEmpty()) Check.plan(x, k, plans[k]);
        return x;
    }

    private static void storm(SnowHouse x, int builders, int t, int n, int plan, int minutes) {
        String call = "storm(3, " + builders + ", " + t + ", " + n + ")";
        if (plan == NONE) c.refused(x, call, () -> x.storm(3, builders, t, n), NONE);
        else c.due(x, call, x.storm(3, builders, t, n), plan, minutes);
    }

    private static void storm() {
        c.at("promise 32");
        SnowHouse most = drift("r9c0w1", "m:9" + "r12:0".repeat(5));
        storm(most, 1, 540, 6, 0, 540);
        storm(most, 1, 600, 0, 0, 540);
        storm(most, 1, 539, 6, NONE, 0);
        storm(most, 2, 270, 6, 0, 270);
        storm(most, 2, 269, 6, NONE, 0);
        SnowHouse least = drift("r9c0w1", "", "", "", "m:1r1:0");
        storm(least, 1, 1, 0, 3, 1);
        storm(least, 1, 0, 0, NONE, 0);
        storm(least, 2, 1, 0, 3, 1);
        storm(least, 2, 0, 0, NONE, 0);
        storm(least, 1, 600, 1, NONE, 0);
        SnowHouse odd = drift("r9c0w1", "m:3r5:0");
        storm(odd, 2, 8, 2, 0, 8);
        storm(odd, 2, 7, 2, NONE, 0);
        storm(odd, 1, 15, 2, 0, 15);
        storm(odd, 1, 14, 2, NONE, 0);
        SnowHouse even = drift("r9c0w1", "m:3r4:0");
        storm(even, 2, 6, 2, 0, 6);
        storm(even, 2, 5, 2, NONE, 0);
        for (int n = 0; n <= 6; n++) {
            storm(drift("r9c0w1", "", "r12:0", "r11:0"), 1, 600, n, n < 6 ? 2 : 1, n < 6 ? 22 : 24);
            if (n < 6) storm(drift("r9c0w1", "r" + (2 * n + 1) + ":0"), 1, 600, n, 0, 4 * n + 2);
            if (n < 6) storm(drift("r9c0w1", "r" + (2 * n + 1) + ":0"), 1, 600, n + 1, NONE, 0);
        }
        SnowHouse alike = drift("r9c0w1", "m:9r6:0", "m:1r5:0r1:0", "m:1r6:0", "r8:0");
        storm(alike, 1, 600, 0, 0, 54);
        storm(alike, 1, 53, 0, 1, 6);
        storm(alike, 1, 53, 3, 2, 6);
        storm(alike, 1, 600, 4, 3, 16);
        SnowHouse falls = drift(STILL, "r1:8", "r1:6r1:7", "r1:7", "r1:7");
        storm(falls, 1, 600, 0, 2, 2);
        SnowHouse two = drift("r0c0w2", "m:1r1:3r1:0", "r1:0r1:0r1:0");
        storm(two, 1, 600, 0, 1, 6);
        storm(two, 2, 600, 0, 0, 1);
    }

    private static void halls(SnowHouse x, int n, int blocks, int... halls) {
        String call = "halls(3, " + n + ", 5)";
        c.due(call, x.halls(3, n, 5), blocks);
        for (int k = 0; k < 4; k++) c.due(x, call + ", PLAN " + k, x.at(5, k), 1, halls[k]);
        c.due(call + ", size", x.at(5, 4), -3);
    }

    private static void halls() {
        c.at("promise 33");
        SnowHouse wide = drift("r9c0w1", "r12:0");
        halls(wide, 1, 12, 1, 0, 0, 0);
        halls(wide, 6, 12, 1, 0, 0, 0);
        halls(wide, 7, 24, 2, 0, 0, 0);
        halls(wide, 36, 72, 6, 0, 0, 0);
        halls(wide, 37, 84, 7, 0, 0, 0);
        halls(wide, 40, 84, 7, 0, 0, 0);
        SnowHouse most = drift("r9g30", "", "r2:0r12:0r12:0r12:0r12:0r10:0");
        halls(most, 1, 60, 0, 1, 0, 0);
        halls(most, 40, 2400, 0, 40, 0, 0);
        SnowHouse alike = drift("r9c0w1", "r4:0", "r4:0", "r4:0", "r4:0");
        halls(alike, 40, 80, 0, 0, 0, 20);
        halls(alike, 1, 4, 0, 0, 0, 1);
        Check.plan(alike, 3, "r1:0");
        halls(alike, 40, 80, 0, 0, 20, 0);
        Check.plan(alike, 2, "r2:0r12:0");
        halls(alike, 3, 8, 0, 2, 0, 0);
        SnowHouse mixed = drift("r9c0w1", "r8:0", "r6:0", "r4:0", "r10:0");
        halls(mixed, 9, 18, 0, 0, 2, 1);
        halls(mixed, 6, 12, 0, 0, 3, 0);
        halls(mixed, 3, 6, 0, 1, 0, 0);
        halls(mixed, 11, 22, 0, 0, 3, 1);
        halls(mixed, 40, 80, 0, 0, 0, 8);
        SnowHouse falls = drift(STILL, "r2:5", "r2:4", "r12:5", "");
        halls(falls, 1, 2, 0, 1, 0, 0);
        halls(falls, 40, 80, 0, 40, 0, 0);
        SnowHouse alone = drift("r0c0w2", "r2:0r1:3r1:0");
        c.refused(alone, "halls, by 1 BUILDER it falls", () -> alone.halls(3, 1, 5), NONE);
    }

    /** The ROW is made anew, whether it was there, longer, shorter, empty or missing. */
    private static void hallsAnew() {
        for (int size : new int[] {-1, 0, 3, 4, 5, 60}) {
            SnowHouse x = drift("r9c0w1", "r4:0");
            if (size >= 0) x.row(5, size);
            for (int i = 0; i < size; i++) x.lay(5, i, 9);
            halls(x, 3, 8, 2, 0, 0, 0);
            c.due("count(6)", x.count(6), 1);
        }
    }

    private static void quarry() {
        c.at("promise 34");
        int[] gives = {0, 0, 1, 2, 4, 6, 9, 12, 16, 20, 25, 30, 36};
        for (int n = 1; n <= 12; n++) {
            SnowHouse x = drift("", "r" + n + ":0", "s" + n + ":9r12:0r12:0r12:0r12:0");
            c.due(x, "quarry of " + n, x.quarry(0), gives[n], n < 4 ? 1 : 0);
            c.due(x, "quarry of " + n + " and 48", x.quarry(1), gives[n], n + 48 - gives[n]);
        }
        SnowHouse x = drift("", "r12:0r12:0r12:0", "r12:0r12:0r11:0r2:0", "r4:0r1:0", "r6:0r3:0");
        c.due(x, "quarry, just enough", x.quarry(0), 36, 0);
        c.due(x, "quarry, one lacks", x.quarry(1), 36, 1);
        c.due(x, "quarry, one lacks", x.quarry(2), 4, 1);
        c.due(x, "quarry, just enough", x.quarry(3), 9, 0);
    }

    public static void main(String[] args) {
        falls();
        pace();
        lean();
        slow();
        spiral();
        fell();
        odds();
        storm();
        halls();
        hallsAnew();
        quarry();
        c.end("StandEdgesTest");
    }
}
