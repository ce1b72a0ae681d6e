/** Promises 35 to 40: INDOORS, WALLS. What is due is worked out by hand from "Terms". */
final class IndoorsTest {
    private static final int BAD = SnowHouse.BAD, NONE = SnowHouse.NONE, NOTHING = 1;
    private static final Check c = new Check();

    /** SNOW 0 of COLD 20, SNOW 1 of COLD 0, no others. */
    private static SnowHouse snowed() {
        SnowHouse x = new SnowHouse();
        Check.snow(x, 0, "");
        Check.snow(x, 1, "c0");
        return x;
    }

    private static void promise35() {
        c.at("promise 35");
        SnowHouse x = snowed();
        c.due(x, "air, no HOURS", x.air(0, 9, 9, 9, 0, 0), 100, -200);
        c.due(x, "air, one HOUR", x.air(0, 1, 1, 1, 1, 1), 100, -182);
        c.due(x, "air, no HOLE", x.air(0, 1, 1, 0, 1, 1), 97, -182);
        c.due(x, "air, the door not LOW", x.air(0, 1, 1, 0, 0, 1), 99, -182);
        c.due(x, "air, a wide HOLE", x.air(0, 9, 0, 9, 1, 1), 100, -110);
        c.due(x, "air, two HOURS", x.air(0, 0, 5, 0, 1, 2), 80, -114);
        c.due(x, "air, none left", x.air(0, 9, 9, 0, 1, 48), 0, 1414);
        c.due(x, "air, back to 100 at most", x.air(1, 0, 1, 9, 1, 2), 100, 10);
        int[][] bad = {{4, 0, 0, 0, 0, 0}, {-1, 0, 0, 0, 0, 0}, {0, 10, 0, 0, 0, 0}, {0, -1, 0, 0, 0, 0}, {0, 0, 10, 0, 0, 0},
            {0, 0, -1, 0, 0, 0}, {0, 0, 0, 10, 0, 0}, {0, 0, 0, -1, 0, 0}, {0, 0, 0, 0, 2, 0}, {0, 0, 0, 0, -1, 0},
            {0, 0, 0, 0, 0, 49}, {2, 0, 0, 0, 0, -1}};
        for (int[] b : bad) c.refused(x, "air", () -> x.air(b[0], b[1], b[2], b[3], b[4], b[5]), BAD);
        c.finds(x, "air, no SNOW", () -> x.air(2, 0, 0, 0, 0, 0), NOTHING);
    }

    private static void layers(SnowHouse x, int lamp, int people, int n, int... warmths) {
        for (int k = 0; k < 6; k++) {
            c.due(x, "layer " + k + " after " + n, x.layer(0, lamp, people, 0, n, k), 1, warmths[k]);
        }
    }

    private static void promise36() {
        c.at("promise 36");
        SnowHouse x = snowed();
        layers(x, 9, 9, 0, -200, -200, -200, -200, -200, -200);
        layers(x, 1, 1, 1, -200, -191, -191, -200, -191, -182);
        layers(x, 0, 5, 1, -200, -155, -155, -200, -200, -155);
        layers(x, 0, 5, 2, -200, -114, -155, -200, -159, -114);
        c.due(x, "layer, a HOLE", x.layer(0, 9, 0, 9, 1, 5), 1, -110);
        c.due(x, "layer, 48 HOURS", x.layer(1, 0, 0, 0, 48, 5), 1, 0);
        int[][] bad = {{4, 0, 0, 0, 0, 0}, {-1, 0, 0, 0, 0, 0}, {0, 10, 0, 0, 0, 0}, {0, -1, 0, 0, 0, 0}, {0, 0, 10, 0, 0, 0},
            {0, 0, -1, 0, 0, 0}, {0, 0, 0, 10, 0, 0}, {0, 0, 0, -1, 0, 0}, {0, 0, 0, 0, 49, 0}, {0, 0, 0, 0, -1, 0},
            {0, 0, 0, 0, 0, 6}, {2, 0, 0, 0, 0, -1}};
        for (int[] b : bad) c.refused(x, "layer", () -> x.layer(b[0], b[1], b[2], b[3], b[4], b[5]), BAD);
        c.finds(x, "layer, no SNOW", () -> x.layer(2, 0, 0, 0, 0, 0), NOTHING);
    }

    private static void promise37() {
        c.at("promise 37");
        SnowHouse x = snowed();
        c.due(x, "hole(0, 0, 0)", x.hole(0, 0, 0), 0, -200);
        c.due("hole(0, 0, 2), 52 left", x.hole(0, 0, 2), 0);
        c.due("hole(0, 1, 2)", x.hole(0, 1, 2), 1);
        c.due("hole(0, 0, 4)", x.hole(0, 0, 4), 2);
        c.due("hole(0, 9, 9)", x.hole(0, 9, 9), 8);
        int warm = x.asked();
        c.due(x, "air by that HOLE", x.air(0, 9, 9, 8, 1, 12), 64, warm);
        int[][] bad = {{4, 0, 0}, {-1, 0, 0}, {0, 10, 0}, {0, -1, 0}, {0, 0, 10}, {2, 0, -1}};
        for (int[] b : bad) c.refused(x, "hole", () -> x.hole(b[0], b[1], b[2]), BAD);
        c.finds(x, "hole, no SNOW", () -> x.hole(2, 0, 0), NOTHING);
    }

    private static void promise38() {
        c.at("promise 38");
        SnowHouse x = snowed();
        c.due(x, "drips(1, 0, 0)", x.drips(1, 0, 0), 0, 0);
        c.due(x, "drips(1, 0, 9)", x.drips(1, 0, 9), 1, 24);
        c.refused(x, "drips(1, 9, 0)", () -> x.drips(1, 9, 0), NONE);
        int[][] bad = {{4, 0, 0}, {-1, 0, 0}, {0, 10, 0}, {0, -1, 0}, {0, 0, 10}, {2, 0, -1}};
        for (int[] b : bad) c.refused(x, "drips", () -> x.drips(b[0], b[1], b[2]), BAD);
        c.finds(x, "drips, no SNOW", () -> x.drips(2, 0, 0), NOTHING);
        Check.snow(x, 2, "c2");
        c.due(x, "drips(2, 0, 9)", x.drips(2, 0, 9), 2, 23);
    }

    private static void promise39() {
        c.at("promise 39");
        SnowHouse x = new SnowHouse();
        c.due(x, "lasts(0, 0, 0)", x.lasts(0, 0, 0), 39, 39);
        c.due(x, "lasts(0, 0, 1)", x.lasts(0, 0, 1), 11, 1);
        c.due(x, "lasts(9, 0, 0)", x.lasts(9, 0, 0), 4, 40);
        c.due(x, "lasts(9, 0, 2)", x.lasts(9, 0, 2), 5, 25);
        c.due(x, "lasts(9, 9, 0)", x.lasts(9, 9, 0), 1, 10);
        c.due(x, "lasts(0, 9, 9)", x.lasts(0, 9, 9), 2, 2);
        int[][] bad = {{10, 0, 0}, {-1, 0, 0}, {0, 10, 0}, {0, -1, 0}, {0, 0, 10}, {0, 0, -1}};
        for (int[] b : bad) c.refused(x, "lasts", () -> x.lasts(b[0], b[1], b[2]), BAD);
    }

    private static void promise40() {
        c.at("promise 40");
        SnowHouse x = new SnowHouse();
        c.due(x, "scrape(9, 0)", x.scrape(9, 0), 3, 6);
        c.due(x, "scrape(0, 0)", x.scrape(0, 0), 0, 39);
        c.due(x, "scrape(0, 9)", x.scrape(0, 9), 0, 2);
        c.due(x, "scrape(5, 0)", x.scrape(5, 0), 7, 10);
        int[][] bad = {{10, 0}, {-1, 0}, {0, 10}, {0, -1}};
        for (int[] b : bad) c.refused(x, "scrape", () -> x.scrape(b[0], b[1]), BAD);
    }

    public static void main(String[] args) {
        promise35();
        promise36();
        promise37();
        promise38();
        promise39();
        promise40();
        c.end("IndoorsTest");
    }
}
