/** The edges of INDOORS and WALLS (promises 35 to 40): by hand, by plain sums, and all that can be asked against Naive. */
final class IndoorEdgesTest {
    private static final int NONE = SnowHouse.NONE;
    private static final Check c = new Check();

    private static SnowHouse snowed(int cold) {
        SnowHouse x = new SnowHouse();
        Check.snow(x, 0, "c" + cold);
        return x;
    }

    /** AIR goes by the same step each HOUR, so that it is a plain sum as long as it is not at an end. */
    private static void air() {
        c.at("promise 35");
        for (int lamp = 0; lamp <= 9; lamp++) {
            for (int people = 0; people <= 9; people++) {
                for (int hole = 0; hole <= 9; hole += 3) {
                    for (int n : new int[] {0, 1, 12, 48}) {
                        SnowHouse x = snowed(20);
                        int less = 2 * people + lamp - 3 * hole;
                        c.due("air, LOW", x.air(0, lamp, people, hole, 1, n), Math.max(0, Math.min(100, 100 - n * less)));
                        c.due("air", x.air(0, lamp, people, hole, 0, n), Math.max(0, Math.min(100, 100 - n * (less - 2))));
                    }
                }
            }
        }
    }

    /** Three HOURS of 5 PEOPLE: what LAYER 1 lost by the door is missing above then. */
    private static void doorsThatAreNotLow() {
        SnowHouse x = snowed(20);
        c.due(x, "air, LOW, 1", x.air(0, 0, 5, 0, 1, 1), 90, -155);
        c.due(x, "air, 1", x.air(0, 0, 5, 0, 0, 1), 92, -155);
        c.due(x, "air, LOW, 2", x.air(0, 0, 5, 0, 1, 2), 80, -114);
        c.due(x, "air, 2", x.air(0, 0, 5, 0, 0, 2), 84, -114);
        c.due(x, "air, LOW, 3", x.air(0, 0, 5, 0, 1, 3), 70, -77);
        c.due(x, "air, 3", x.air(0, 0, 5, 0, 0, 3), 76, -114);
    }

    /** By a LAMP alone LAYER 5 warms and no other: 20 more, a tenth off, then HOLE twentieths. */
    private static void layers() {
        c.at("promise 36");
        for (int cold : new int[] {0, 1, 20, 40}) {
            for (int hole = 0; hole <= 9; hole++) {
                SnowHouse x = snowed(cold);
                int above = 0;
                for (int n = 0; n <= 48; n++) {
                    c.due(x, "layer 5 after " + n, x.layer(0, 3, 0, hole, n, 5), 1, above - 10 * cold);
                    if (n == 48) for (int k = 0; k < 5; k++) c.due(x, "layer " + k, x.layer(0, 3, 0, hole, n, k), 1, -10 * cold);
                    above += 60;
                    above -= above / 10;
                    above -= above * hole / 20;
                }
            }
        }
        SnowHouse x = snowed(0);
        int[] one = {0, 9, 9, 0, 0, 9};
        for (int k = 0; k < 6; k++) c.due(x, "layer " + k + ", 1 of PEOPLE", x.layer(0, 0, 1, 0, 1, k), 1, one[k]);
        int[] lit = {0, 9, 9, 0, 9, 18};
        for (int k = 0; k < 6; k++) c.due(x, "layer " + k + ", a LAMP", x.layer(0, 1, 1, 0, 1, k), 1, lit[k]);
    }

    /** AIR is 50 or more after 12 HOURS just if an HOUR takes 4 at most. */
    private static void holes() {
        c.at("promise 37");
        for (int lamp = 0; lamp <= 9; lamp++) {
            for (int people = 0; people <= 9; people++) {
                SnowHouse x = snowed(20);
                int takes = 2 * people + lamp;
                int least = takes <= 4 ? 0 : (takes - 4 + 2) / 3;
                int got = x.hole(0, lamp, people);
                int warm = x.asked();
                c.due("hole(0, " + lamp + ", " + people + ")", got, least);
                c.due(x, "layer 5 by it", x.layer(0, lamp, people, least, 12, 5), 1, warm);
            }
        }
    }

    private static void drips(int cold, int people, int hole, int lamp, int thawed) {
        SnowHouse x = snowed(cold);
        c.due(x, "drips of c" + cold, x.drips(0, people, hole), lamp, thawed);
    }

    private static void drips() {
        c.at("promise 38");
        drips(1, 0, 9, 2, 24);
        drips(4, 0, 8, 2, 22);
        drips(2, 0, 9, 2, 23);
        drips(0, 0, 0, 0, 0);
        drips(0, 0, 7, 1, 24);
        drips(0, 0, 6, 0, 0);
        drips(40, 0, 9, 9, 0);
        SnowHouse x = snowed(0);
        c.refused(x, "drips, by no LAMP", () -> x.drips(0, 9, 0), NONE);
    }

    private static void lasts(int lamp, int wind, int s, int days, int sag) {
        SnowHouse x = new SnowHouse();
        c.due(x, "lasts(" + lamp + ", " + wind + ", " + s + ")", x.lasts(lamp, wind, s), days, sag);
    }

    private static void lasts() {
        c.at("promise 39");
        lasts(0, 0, 0, 39, 39);
        lasts(2, 4, 0, 4, 12);
        lasts(2, 5, 0, 4, 12);
        lasts(7, 0, 0, 5, 40);
        lasts(8, 0, 0, 4, 36);
        lasts(9, 0, 0, 4, 40);
        lasts(0, 9, 0, 2, 2);
        lasts(9, 9, 0, 1, 10);
        lasts(9, 9, 1, 1, 5);
        lasts(0, 0, 1, 11, 1);
        lasts(0, 0, 9, 31, 12);
        lasts(9, 0, 2, 5, 25);
        lasts(1, 0, 3, 17, 10);
    }

    private static void scrapes() {
        c.at("promise 40");
        for (int lamp = 0; lamp <= 9; lamp++) {
            for (int wind = 0; wind <= 9; wind++) {
                int best = 0;
                int most = 0;
                for (int s = 0; s <= 9; s++) {
                    int days = new SnowHouse().lasts(lamp, wind, s);
                    if (days > most) best = s;
                    most = Math.max(most, days);
                }
                SnowHouse x = new SnowHouse();
                c.due(x, "scrape(" + lamp + ", " + wind + ")", x.scrape(lamp, wind), best, most);
            }
        }
        SnowHouse x = new SnowHouse();
        c.due(x, "scrape(9, 0)", x.scrape(9, 0), 3, 6);
        c.due(x, "scrape(0, 0)", x.scrape(0, 0), 0, 39);
    }

    private static void all(int cold) {
        c.at("all of COLD " + cold);
        Naive y = new Naive();
        y.snows[0] = new Naive.Snow(12, 4, cold, 3);
        for (int a = 0; a <= 9; a++) {
            for (int b = 0; b <= 9; b++) {
                SnowHouse x = snowed(cold);
                c.due(x, "hole " + a + " " + b, x.hole(0, a, b), y.hole(0, a, b), y.asked);
                c.due(x, "drips " + a + " " + b, x.drips(0, a, b), y.drips(0, a, b), y.asked);
                if (cold == 0) c.due(x, "scrape " + a + " " + b, x.scrape(a, b), y.scrape(a, b), y.asked);
                for (int d = 0; d <= 9; d++) {
                    if (cold == 0) c.due(x, "lasts " + a + " " + b + " " + d, x.lasts(a, b, d), y.lasts(a, b, d), y.asked);
                    if (cold % 8 == 0) airs(snowed(cold), y, a, b, d);
                }
            }
        }
    }

    private static void airs(SnowHouse x, Naive y, int lamp, int people, int hole) {
        for (int n : new int[] {0, 1, 2, 3, 5, 11, 24, 48}) {
            String told = " " + lamp + " " + people + " " + hole + " " + n;
            for (int low = 0; low < 2; low++) {
                c.due(x, "air" + told, x.air(0, lamp, people, hole, low, n), y.air(0, lamp, people, hole, low, n), y.asked);
            }
            for (int k = 0; k < 6; k++) {
                c.due(x, "layer" + told, x.layer(0, lamp, people, hole, n, k), y.layer(0, lamp, people, hole, n, k), y.asked);
            }
        }
    }

    public static void main(String[] args) {
        air();
        doorsThatAreNotLow();
        layers();
        holes();
        drips();
        lasts();
        scrapes();
        for (int cold = 0; cold <= 40; cold++) all(cold);
        c.end("IndoorEdgesTest");
    }
}
