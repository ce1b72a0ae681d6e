/** Promises 41 to 47: what is told. */
final class ToldTest {
    private static final int BAD = SnowHouse.BAD, NONE = SnowHouse.NONE;
    private static final Check c = new Check();

    private static void promise41() {
        c.at("promise 41");
        SnowHouse x = new SnowHouse();
        c.due("asked(), before", x.asked(), 0);
        Check.snow(x, 0, "r9c0");
        Check.plan(x, 0, "r3:0r1:8");
        c.due("asked(), put() and the like tell nothing", x.asked(), 0);
        x.row(0, 2);
        x.lay(0, 1, 77);
        c.due("asked(), lay()", x.asked(), 0);
        x.at(0, 1);
        c.due("asked(), at()", x.asked(), 77);
        x.house(0, 0, 1);
        x.go(4);
        x.mark(3, 4);
        x.pace(3);
        x.lean(0);
        x.odds();
        x.halls(0, 3, 1);
        x.copy(0, 0, 0, 1, 1);
        x.keep(0);
        x.door(2);
        x.on(0);
        x.tear(0);
        x.count(0);
        x.findings(1);
        x.digest();
        x.finding();
        x.upper();
        c.due("asked(), calls that do not tell by it", x.asked(), 77);
        x.at(5, 0);
        x.about(0, 4);
        x.falls();
        c.due("asked(), refused calls and NONE", x.asked(), 77);
        x.slumped();
        c.due("asked(), slumped()", x.asked(), NONE);
        x.storm(0, 1, 8, 1);
        c.due("asked(), storm()", x.asked(), 8);
        x.storm(0, 1, 7, 1);
        c.due("asked(), storm() NONE", x.asked(), 8);
        x.scrape(9, 0);
        c.due("asked(), scrape()", x.asked(), 6);
    }

    private static void promises42and43() {
        c.at("promises 42, 43");
        SnowHouse x = Check.begun("r2c0w2", "r2:2 s2:4", 1);
        c.due("upper(), before", x.upper(), 0);
        c.due("lower(), before", x.lower(), 1);
        x.odds();
        c.due("upper()", x.upper(), 1);
        c.due("lower()", x.lower(), 2);
        Check.plan(x, 0, "r2:2 r2:4");
        x.house(0, 0, 1);
        c.due("upper(), stays", x.upper(), 1);
        x.odds();
        c.due("upper(), none", x.upper(), 0);
        c.due("lower(), none", x.lower(), 1);
    }

    private static void counts(SnowHouse x, int... want) {
        for (int what = 0; what < want.length; what++) c.due("count(" + what + ")", x.count(what), want[what]);
    }

    private static void promise44() {
        c.at("promise 44");
        SnowHouse x = new SnowHouse();
        counts(x, 0, 0, 0, 0, 0, 0, 0, 0);
        Check.snow(x, 0, "r4c0w2");
        Check.snow(x, 2, "");
        Check.plan(x, 0, "r2:4 r2:4 r1:9 r1:0");
        x.row(0, 0);
        x.row(3, 4);
        x.text(3, 0);
        x.house(0, 0, 1);
        counts(x, 2, 1, 0, 0, 0, 0, 2, 2);
        x.go(1);
        counts(x, 2, 1, 1, 0, 1, 0, 2, 2);
        x.go(5);
        x.keep(1);
        x.keep(1);
        counts(x, 2, 1, 6, 2, 2, 1, 2, 2);
        x.door(0);
        counts(x, 2, 1, 6, 5, 1, 1, 2, 2);
        x.tear(0);
        counts(x, 2, 1, 6, 5, 1, 1, 1, 2);
        c.refused(x, "count(8)", () -> x.count(8), BAD);
        c.refused(x, "count(-1)", () -> x.count(-1), BAD);
    }

    private static void promises45and46() {
        c.at("promises 45, 46");
        SnowHouse x = new SnowHouse();
        c.due("finding(), before", x.finding(), 0);
        x.row(0, 2);
        for (int i = 0; i < 3; i++) x.at(1, 0);
        c.due("finding()", x.finding(), 1);
        x.at(0, 2);
        x.row(1, 0);
        x.mean(1);
        x.row(2, -1);
        c.due("finding()", x.finding(), 5);
        x.go(1);
        x.at(9, 9);
        c.due("finding(), no FINDING behind it", x.finding(), 5);
        x.text(0, 0);
        x.snow(0, 0);
        Check.plan(x, 0, "r1:0");
        x.house(0, 0, 1);
        x.go(1);
        x.mark(0, 2);
        c.due("finding()", x.finding(), 3);
        int[] often = {3, 1, 1, 1, 1};
        for (int f = 1; f <= 5; f++) c.due("findings(" + f + ")", x.findings(f), often[f - 1]);
        c.refused(x, "findings(0)", () -> x.findings(0), BAD);
        c.refused(x, "findings(6)", () -> x.findings(6), BAD);
        c.refused(x, "findings(-1)", () -> x.findings(-1), BAD);
    }

    private static long mixed(int... values) {
        long h = 17;
        for (int v : values) h = 31 * h + v;
        return h;
    }

    private static void promise47() {
        c.at("promise 47");
        SnowHouse x = new SnowHouse();
        c.due("digest(), new", x.digest(), mixed(0, 0, 0, 0, 0, 0, 0, 0,
                -1, -1, -1, -1, -1, -1, -1, -1, -1, -1, -1, -1, -1, -1, -1, -1, -1, -1, -1));
        Check.snow(x, 1, "c7");
        Check.plan(x, 2, "r2:3s1:0");
        x.house(1, 2, 1);
        x.row(4, 2);
        x.lay(4, 0, 5);
        x.lay(4, 1, -6);
        x.text(0, 1);
        x.put(0, 0, -3);
        x.text(3, 0);
        x.at(4, 0);
        c.due("digest(), none LAID", x.digest(), mixed(1, 1, 0, 0, 0, 0, 1, 2, -1, 12, 4, 7, 3, -1, -1,
                -1, -1, 2, 2, 3, 1, 1, 23, 2, 10, -1, -1, -1, -1, -1, 2, 5, -6, -1, 1, -3, -1, -1, 0));
        c.due("asked() stays", x.asked(), 5);
        x.go(3);
        x.keep(0);
        c.due("digest(), LAID", x.digest(), mixed(1, 1, 3, 0, 2, 1, 1, 2, -1, 12, 4, 7, 3, -1, -1,
                -1, -1, 2, 2, 3, 1, 1, 23, 2, 10, -1, 1, 0, 0, -9, -9, 1, 0, 1, -9, -9, 2, 1, 0, 0, -9,
                -1, -1, -1, -1, 2, 5, -6, -1, 1, -3, -1, -1, 0));
        Check.snow(x, 1, "r0c0w9");
        x.house(1, 2, 1);
        x.go(2);
        c.due("digest(), SLUMPED", x.digest(), mixed(1, 1, 2, 2, 0, 1, 1, 2, -1, 12, 0, 0, 9, -1, -1,
                -1, -1, 2, 2, 3, 1, 1, 23, 2, 10, -1, 6, 0, 0, -9, 0, 6, 0, 1, -9, 1,
                -1, -1, -1, -1, 2, 5, -6, -1, 6, 114, 48, 99, 48, 119, 57, -1, -1, 0));
    }

    public static void main(String[] args) {
        promise41();
        promises42and43();
        promise44();
        promises45and46();
        promise47();
        c.end("ToldTest");
    }
}
