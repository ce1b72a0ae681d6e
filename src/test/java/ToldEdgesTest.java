import java.util.function.ToIntFunction;

/** The edges of what is told (promises 41 to 47): which calls tell, what they leave, what digest() holds. */
final class ToldEdgesTest {
    private static final int BAD = SnowHouse.BAD, NONE = SnowHouse.NONE;
    private static final Check c = new Check();

    private static SnowHouse furnished() {
        SnowHouse x = Check.built("r4c0w2", "r4:2r1:0r1:9", 1);
        Check.fill(x, 0, 31, 33);
        Check.fill(x, 1, 0, 0, 0, 0, 0, 1);
        x.lay(0, 0, 555);
        x.lay(0, 0, 31);
        c.due("asked() at first", x.asked(), 555);
        return x;
    }

    private static void tells(String call, ToIntFunction<SnowHouse> made, int asked) {
        SnowHouse x = furnished();
        int answer = made.applyAsInt(x);
        c.due(call + " is not refused", answer >= 0 ? 1 : 0, 1);
        c.due(call + ", asked()", x.asked(), asked);
    }

    private static void stays(String call, ToIntFunction<SnowHouse> made, int want) {
        SnowHouse x = furnished();
        c.due(call, made.applyAsInt(x), want);
        c.due(call + ", asked() stays", x.asked(), 555);
    }

    /** Each of the calls that tell by asked(). BLOCK 5, of LEAN 9, SLUMPS at MOMENT 5, and no other. */
    private static void tellers() {
        c.at("promise 41, calls that tell");
        tells("lay", x -> x.lay(0, 1, 9), 33);
        tells("at", x -> x.at(0, 1), 33);
        tells("mean", x -> x.mean(0), 32);
        tells("about", x -> x.about(0, 1), 4);
        tells("tells", x -> x.tells(0, 3), 2);
        tells("course", x -> x.course(0, 2), 19);
        tells("block", x -> x.block(5, 4), 5);
        tells("block, NONE", x -> x.block(0, 4), NONE);
        tells("pull", x -> x.pull(5), 7);
        tells("slumped", SnowHouse::slumped, 5);
        tells("falls", SnowHouse::falls, 5);
        tells("slow", x -> {
            x.house(0, 0, 1);
            Check.plan(x, 1, "r1:0");
            x.house(0, 1, 1);
            return x.slow();
        }, 0);
        tells("spiral", SnowHouse::spiral, 0);
        tells("fell", x -> x.fell(1), 8);
        tells("storm", x -> {
            Check.plan(x, 1, "r2:0m:7");
            return x.storm(0, 1, 600, 1);
        }, 14);
        tells("quarry", x -> x.quarry(0), 2);
        tells("air", x -> x.air(0, 1, 0, 0, 1, 1), 18);
        tells("layer", x -> x.layer(0, 2, 0, 0, 1, 5), 36);
        tells("hole", x -> x.hole(0, 0, 0), 0);
        tells("drips", x -> x.drips(0, 0, 7), 24);
        tells("lasts", x -> x.lasts(7, 0, 0), 40);
        tells("scrape", x -> x.scrape(9, 0), 6);
    }

    private static void others() {
        c.at("promise 41, calls that do not tell");
        stays("row", x -> x.row(2, 3), 3);
        stays("tear", x -> x.tear(0), 1);
        stays("copy", x -> x.copy(0, 0, 1, 0, 2), 1);
        stays("text", x -> x.text(2, 3), 3);
        stays("put", x -> x.put(0, 0, 1), 1114);
        stays("fault", x -> x.fault(0, true), NONE);
        stays("snow", x -> {
            x.text(1, 0);
            return x.snow(1, 1);
        }, 0);
        stays("plan", x -> x.plan(1, 0), 6);
        stays("house", x -> x.house(0, 0, 2), 6);
        stays("go", x -> x.go(0), 6);
        stays("mark", x -> x.mark(5, 6), 4);
        stays("door", x -> x.door(3), 1);
        stays("keep", x -> x.keep(1), 6);
        stays("on", x -> {
            x.keep(1);
            return x.on(1);
        }, 6);
        stays("pace", x -> x.pace(9), 1);
        stays("lean", x -> x.lean(2), 7);
        stays("odds", SnowHouse::odds, 8);
        stays("halls", x -> {
            Check.plan(x, 1, "r2:0");
            return x.halls(0, 1, 2);
        }, 2);
        stays("count", x -> x.count(1), 1);
        stays("finding", SnowHouse::finding, 0);
        stays("findings", x -> x.findings(1), 0);
        stays("asked, upper, lower, digest", x -> {
            x.digest();
            x.asked();
            return (int) (x.upper() + x.lower());
        }, 1);
    }

    private static void refusals() {
        c.at("promise 41, refused or NONE");
        stays("lay", x -> x.lay(0, 2, 9), -3);
        stays("at", x -> x.at(6, 0), BAD);
        stays("mean", x -> x.mean(5), -3);
        stays("about", x -> x.about(0, 4), BAD);
        stays("tells", x -> x.tells(1, 0), -3);
        stays("course", x -> x.course(0, 3), -3);
        stays("block", x -> x.block(6, 0), BAD);
        stays("pull", x -> x.pull(6), BAD);
        stays("slow", SnowHouse::slow, NONE);
        stays("fell", x -> {
            x.lay(1, 0, 1);
            x.lay(0, 0, 555);
            x.lay(0, 0, 31);
            return x.fell(1);
        }, NONE);
        stays("storm", x -> x.storm(0, 1, 600, 0), NONE);
        stays("halls", x -> x.halls(0, 1, 0), NONE);
        stays("quarry", x -> x.quarry(1), -3);
        stays("air", x -> x.air(0, 0, 0, 0, 0, 49), BAD);
        stays("layer", x -> x.layer(1, 0, 0, 0, 0, 0), -3);
        stays("hole", x -> x.hole(0, 0, 10), BAD);
        stays("drips", x -> x.drips(0, 9, 0), NONE);
        stays("lasts", x -> x.lasts(0, 0, -1), BAD);
        stays("scrape", x -> x.scrape(-1, 0), BAD);
        SnowHouse standing = Check.built("r9", "r1:0", 1);
        standing.about(0, 0);
        c.due("falls", standing.falls(), NONE);
        c.due("falls, asked() stays", standing.asked(), 12);
        SnowHouse none = new SnowHouse();
        c.due("slumped, no HOUSE", none.slumped(), SnowHouse.STATE);
        c.due("asked(), 0 before", none.asked(), 0);
    }

    private static void fractions() {
        c.at("promises 42, 43");
        SnowHouse x = new SnowHouse();
        c.due("odds, no HOUSE", x.odds(), SnowHouse.STATE);
        c.due("upper(), 0 before", x.upper(), 0);
        c.due("lower(), 1 before", x.lower(), 1);
        Check.snow(x, 0, "r4c0w2");
        Check.plan(x, 0, "r1:6r1:0m:1");
        Check.plan(x, 1, "r1:9");
        x.house(0, 0, 1);
        c.due("odds", x.odds(), 6);
        c.due("upper()", x.upper(), 2);
        c.due("lower()", x.lower(), 3);
        x.house(0, 1, 1);
        c.due("upper(), told last", x.upper(), 2);
        c.due("odds, none", x.odds(), 3);
        c.due("upper(), 0 by 1", x.upper(), 0);
        c.due("lower(), 0 by 1", x.lower(), 1);
    }

    private static void counts(SnowHouse x, String when, int... want) {
        for (int what = 0; what < 8; what++) c.due("count(" + what + "), " + when, x.count(what), want[what]);
    }

    private static void counts() {
        c.at("promise 44");
        SnowHouse x = new SnowHouse();
        counts(x, "new", 0, 0, 0, 0, 0, 0, 0, 0);
        for (int t = 0; t < 4; t++) x.text(t, 0);
        for (int k = 0; k < 4; k++) x.snow(k, 0);
        Check.write(x, 0, "r12:0".repeat(5));
        for (int k = 0; k < 4; k++) x.plan(k, 0);
        for (int r = 0; r < 6; r++) x.row(r, 0);
        counts(x, "all there", 4, 4, 0, 0, 0, 0, 6, 4);
        x.snow(0, 1);
        x.row(0, 60);
        x.text(1, 80);
        counts(x, "anew", 4, 4, 0, 0, 0, 0, 6, 4);
        x.house(0, 0, 1);
        counts(x, "begun", 4, 4, 0, 0, 0, 0, 6, 4);
        x.go(11);
        counts(x, "11 LAID", 4, 4, 11, 0, 11, 0, 6, 4);
        x.go(2);
        counts(x, "13 LAID", 4, 4, 13, 0, 12, 0, 6, 4);
        x.go(47);
        for (int k = 0; k < 3; k++) x.keep(k);
        counts(x, "all LAID", 4, 4, 60, 0, 12, 3, 6, 4);
        x.door(11);
        counts(x, "a door", 4, 4, 60, 0, 12, 3, 6, 4);
        for (int r = 0; r < 6; r++) x.tear(r);
        counts(x, "torn", 4, 4, 60, 0, 12, 3, 0, 4);
        SnowHouse all = Check.built("r0c0w9", "r12:9".repeat(5), 1);
        counts(all, "all SLUMPED", 1, 1, 60, 60, 0, 0, 0, 1);
        all.house(0, 0, 1);
        counts(all, "begun anew", 1, 1, 0, 0, 0, 0, 0, 1);
    }

    private static void findings() {
        c.at("promises 45, 46");
        SnowHouse x = Check.built("r9", "r1:0", 1);
        x.row(0, 0);
        for (int f = 1; f <= 5; f++) {
            for (int often = 0; often < f; often++) {
                int answer = f == 1 ? x.tear(5) : f == 2 ? x.at(0, 0) : f == 3 ? x.mark(0, 6) : f == 4 ? x.mean(0) : x.row(0, -1);
                c.due("FINDING " + f, answer, -3);
                c.due("finding()", x.finding(), f);
                c.due("findings(" + f + ")", x.findings(f), often + 1);
            }
        }
        for (int f = 1; f <= 5; f++) c.due("findings(" + f + ") at last", x.findings(f), f);
        x.go(1);
        x.go(61);
        x.row(0, 61);
        x.falls();
        x.plan(0, 1);
        c.due("finding(), a missing TEXT", x.finding(), 1);
        x.text(1, 0);
        x.plan(0, 1);
        x.row(1, 1);
        c.due("finding(), SPENT, BAD, NONE, STATE are none", x.finding(), 1);
        c.due("findings(1)", x.findings(1), 2);
        for (int f = 2; f <= 5; f++) c.due("findings(" + f + "), the others", x.findings(f), f);
    }

    private static long mixed(long... values) {
        long h = 17;
        for (long v : values) h = 31 * h + v;
        return h;
    }

    /** Missing is -1, empty 0; ints and bytes come with their signs. */
    private static void digests() {
        c.at("promise 47");
        furnished();
        SnowHouse x = new SnowHouse();
        long none = mixed(0, 0, 0, 0, 0, 0, 0, 0, -1, -1, -1, -1, -1, -1, -1, -1, -1, -1, -1, -1, -1, -1, -1, -1, -1, -1, -1);
        c.due("digest(), new, whatever another object has", x.digest(), none);
        x.row(0, 0);
        c.due("digest(), an empty ROW", x.digest(),
                mixed(0, 0, 0, 0, 0, 0, 1, 0, -1, -1, -1, -1, -1, -1, -1, -1, -1, 0, -1, -1, -1, -1, -1, -1, -1, -1, -1));
        x.tear(0);
        c.due("digest(), torn", x.digest(), none);
        Check.fill(x, 5, Integer.MIN_VALUE, Integer.MAX_VALUE);
        x.text(3, 3);
        x.put(3, 0, -128);
        x.put(3, 1, 127);
        c.due("digest(), the least and the most", x.digest(), mixed(0, 0, 0, 0, 0, 0, 1, 1, -1, -1, -1, -1, -1, -1, -1, -1, -1,
                -1, -1, -1, -1, -1, 2, Integer.MIN_VALUE, Integer.MAX_VALUE, -1, -1, -1, 3, -128, 127, 32));
    }

    public static void main(String[] args) {
        tellers();
        others();
        refusals();
        fractions();
        counts();
        findings();
        digests();
        c.end("ToldEdgesTest");
    }
}
