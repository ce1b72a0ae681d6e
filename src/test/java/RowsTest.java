/** Promises 1 to 15: a new object, ROWS, TEXTS, SNOWS, PLANS. */
final class RowsTest {
    private static final int BAD = SnowHouse.BAD, STATE = SnowHouse.STATE, NONE = SnowHouse.NONE;
    private static final int NOTHING = 1, BEYOND = 2, NOUGHT = 4, SIZE = 5;
    private static final int LEAST = Integer.MIN_VALUE, MOST = Integer.MAX_VALUE;
    private static final Check c = new Check();

    private static void promise1() {
        c.at("promise 1");
        SnowHouse x = new SnowHouse();
        for (int what = 0; what < 8; what++) c.due("count " + what, x.count(what), 0);
        c.due("asked()", x.asked(), 0);
        c.due("upper()", x.upper(), 0);
        c.due("lower()", x.lower(), 1);
        c.due("finding()", x.finding(), 0);
        for (int f = 1; f <= 5; f++) c.due("findings " + f, x.findings(f), 0);
        for (int r = 0; r < 6; r++) c.due("tear " + r, x.tear(r), -3);
        for (int t = 0; t < 4; t++) c.due("fault " + t, x.fault(t, true), -3);
        for (int k = 0; k < 4; k++) c.due("about " + k, x.about(k, 0), -3);
        for (int k = 0; k < 4; k++) c.due("tells " + k, x.tells(k, 0), -3);
        for (int k = 0; k < 3; k++) c.due("on " + k, x.on(k), -3);
        c.due("slumped()", x.slumped(), STATE);
    }

    private static void promise2() {
        c.at("promise 2");
        SnowHouse x = new SnowHouse();
        c.due("row(0, 0)", x.row(0, 0), 0);
        c.due("row(5, 60)", x.row(5, 60), 60);
        c.due(x, "at(5, 59)", x.at(5, 59), 1, 0);
        x.lay(5, 3, 7);
        c.due("row(5, 4), anew", x.row(5, 4), 4);
        c.due(x, "at(5, 3)", x.at(5, 3), 1, 0);
        c.refused(x, "row(0, 61)", () -> x.row(0, 61), BAD);
        c.refused(x, "row(0, MOST)", () -> x.row(0, MOST), BAD);
        c.refused(x, "row(6, 1)", () -> x.row(6, 1), BAD);
        c.refused(x, "row(-1, 1)", () -> x.row(-1, 1), BAD);
        c.refused(x, "row(6, -1)", () -> x.row(6, -1), BAD);
        c.finds(x, "row(5, -1)", () -> x.row(5, -1), SIZE);
        c.finds(x, "row(5, LEAST)", () -> x.row(5, LEAST), SIZE);
        c.due("count(6)", x.count(6), 2);
    }

    private static void promises3and4() {
        c.at("promise 3");
        SnowHouse x = new SnowHouse();
        c.finds(x, "lay(0, 0, 1)", () -> x.lay(0, 0, 1), NOTHING);
        x.row(0, 3);
        c.due(x, "lay(0, 2, MOST)", x.lay(0, 2, MOST), 1, 0);
        c.due(x, "lay(0, 2, -5)", x.lay(0, 2, -5), 1, MOST);
        c.due(x, "lay(0, 0, 9)", x.lay(0, 0, 9), 1, 0);
        c.refused(x, "lay(6, 0, 1)", () -> x.lay(6, 0, 1), BAD);
        c.refused(x, "lay(-1, 9, 1)", () -> x.lay(-1, 9, 1), BAD);
        c.finds(x, "lay(0, 3, 1)", () -> x.lay(0, 3, 1), BEYOND);
        c.finds(x, "lay(0, -1, 1)", () -> x.lay(0, -1, 1), BEYOND);
        c.finds(x, "lay(1, -1, 1)", () -> x.lay(1, -1, 1), NOTHING);
        x.row(2, 0);
        c.finds(x, "lay(2, 0, 1), an empty ROW", () -> x.lay(2, 0, 1), BEYOND);
        c.at("promise 4");
        c.due(x, "at(0, 2)", x.at(0, 2), 1, -5);
        c.due(x, "at(0, 1)", x.at(0, 1), 1, 0);
        c.due(x, "at(0, 0)", x.at(0, 0), 1, 9);
        c.refused(x, "at(6, 0)", () -> x.at(6, 0), BAD);
        c.refused(x, "at(-1, 0)", () -> x.at(-1, 0), BAD);
        c.finds(x, "at(1, 9)", () -> x.at(1, 9), NOTHING);
        c.finds(x, "at(2, 0), an empty ROW", () -> x.at(2, 0), BEYOND);
        c.finds(x, "at(0, 3)", () -> x.at(0, 3), BEYOND);
        c.finds(x, "at(0, LEAST)", () -> x.at(0, LEAST), BEYOND);
    }

    private static void promise5() {
        c.at("promise 5");
        SnowHouse x = new SnowHouse();
        x.row(2, 2);
        x.row(3, 2);
        c.due("tear(2)", x.tear(2), 1);
        c.due("count(6)", x.count(6), 1);
        c.finds(x, "tear(2) again", () -> x.tear(2), NOTHING);
        c.finds(x, "at(2, 0)", () -> x.at(2, 0), NOTHING);
        c.refused(x, "tear(6)", () -> x.tear(6), BAD);
        c.refused(x, "tear(-1)", () -> x.tear(-1), BAD);
    }

    private static void holds(SnowHouse x, String call, int r, int... values) {
        for (int i = 0; i < values.length; i++) c.due(x, call + ", at " + i, x.at(r, i), 1, values[i]);
        c.due(call + ", size", x.at(r, values.length), -3);
    }

    private static void promise6() {
        c.at("promise 6");
        SnowHouse x = new SnowHouse();
        Check.fill(x, 0, 1, 2, 3, 4, 5);
        Check.fill(x, 1, 9, 9, 9);
        c.due("copy(0, 1, 1, 0, 2)", x.copy(0, 1, 1, 0, 2), 1);
        holds(x, "copy(0, 1, 1, 0, 2)", 1, 2, 3, 9);
        c.due("copy(0, 0, 0, 1, 4)", x.copy(0, 0, 0, 1, 4), 1);
        holds(x, "copy(0, 0, 0, 1, 4)", 0, 1, 1, 2, 3, 4);
        c.due("copy(0, 1, 0, 0, 4)", x.copy(0, 1, 0, 0, 4), 1);
        holds(x, "copy(0, 1, 0, 0, 4)", 0, 1, 2, 3, 4, 4);
        c.due("copy(0, 5, 1, 3, 0)", x.copy(0, 5, 1, 3, 0), 1);
        c.due("copy(0, 2, 1, 0, 3), all of a ROW", x.copy(0, 2, 1, 0, 3), 1);
        holds(x, "copy(0, 2, 1, 0, 3)", 1, 3, 4, 4);
        x.row(2, 0);
        c.due("copy(2, 0, 2, 0, 0), an empty ROW", x.copy(2, 0, 2, 0, 0), 1);
        c.finds(x, "copy(0, 6, 1, 0, 0)", () -> x.copy(0, 6, 1, 0, 0), BEYOND);
        c.finds(x, "copy(0, 0, 1, 4, 0)", () -> x.copy(0, 0, 1, 4, 0), BEYOND);
        c.finds(x, "copy(0, -1, 1, 0, 0)", () -> x.copy(0, -1, 1, 0, 0), BEYOND);
        c.finds(x, "copy(0, 0, 1, -1, 0)", () -> x.copy(0, 0, 1, -1, 0), BEYOND);
        c.finds(x, "copy(0, 0, 1, 0, 4)", () -> x.copy(0, 0, 1, 0, 4), BEYOND);
        c.finds(x, "copy(0, 4, 1, 0, 2)", () -> x.copy(0, 4, 1, 0, 2), BEYOND);
        c.finds(x, "copy(0, MOST, 1, 0, MOST)", () -> x.copy(0, MOST, 1, 0, MOST), BEYOND);
        c.finds(x, "copy(0, 1, 1, 1, MOST)", () -> x.copy(0, 1, 1, 1, MOST), BEYOND);
        c.finds(x, "copy(5, 9, 0, 0, 0)", () -> x.copy(5, 9, 0, 0, 0), NOTHING);
        c.finds(x, "copy(0, 0, 5, 0, 0)", () -> x.copy(0, 0, 5, 0, 0), NOTHING);
        c.finds(x, "copy(5, 0, 0, 0, -1)", () -> x.copy(5, 0, 0, 0, -1), SIZE);
        c.refused(x, "copy(6, 0, 0, 0, -1)", () -> x.copy(6, 0, 0, 0, -1), BAD);
        c.refused(x, "copy(0, 0, -1, 0, 0)", () -> x.copy(0, 0, -1, 0, 0), BAD);
    }

    private static void promise7() {
        c.at("promise 7");
        SnowHouse x = new SnowHouse();
        Check.fill(x, 0, 1, 2, 4);
        c.due(x, "mean of 1 2 4", x.mean(0), 1, 2);
        Check.fill(x, 0, -1, -2, -5);
        c.due(x, "mean of -1 -2 -5", x.mean(0), 1, -2);
        Check.fill(x, 0, MOST, MOST, MOST);
        c.due(x, "mean of the most", x.mean(0), 1, MOST);
        Check.fill(x, 0, LEAST, LEAST);
        c.due(x, "mean of the least", x.mean(0), 1, LEAST);
        x.row(0, 60);
        for (int i = 0; i < 60; i++) x.lay(0, i, i);
        c.due(x, "mean of 0 to 59", x.mean(0), 1, 29);
        x.row(1, 0);
        c.finds(x, "mean(1)", () -> x.mean(1), NOUGHT);
        c.finds(x, "mean(2)", () -> x.mean(2), NOTHING);
        c.refused(x, "mean(6)", () -> x.mean(6), BAD);
        c.refused(x, "mean(-1)", () -> x.mean(-1), BAD);
    }

    private static void promises8and9() {
        c.at("promise 8");
        SnowHouse x = new SnowHouse();
        c.finds(x, "put(0, 0, 1)", () -> x.put(0, 0, 1), NOTHING);
        c.due("text(3, 80)", x.text(3, 80), 80);
        c.due("text(0, 0)", x.text(0, 0), 0);
        c.due("text(0, 2)", x.text(0, 2), 2);
        c.refused(x, "text(0, 81)", () -> x.text(0, 81), BAD);
        c.refused(x, "text(4, -1)", () -> x.text(4, -1), BAD);
        c.refused(x, "text(-1, 1)", () -> x.text(-1, 1), BAD);
        c.finds(x, "text(0, -1)", () -> x.text(0, -1), SIZE);
        c.due("count(7)", x.count(7), 2);
        c.at("promise 9");
        c.due("put(0, 1, 128)", x.put(0, 1, 128), 1032);
        c.due("put(0, 1, 127)", x.put(0, 1, 127), 872);
        c.due("put(0, 1, -1)", x.put(0, 1, -1), 1127);
        c.due("put(0, 1, 300)", x.put(0, 1, 300), 999);
        c.due("put(0, 1, 0)", x.put(0, 1, 0), 1044);
        c.due("put(3, 79, 0)", x.put(3, 79, 0), 1032);
        c.due("asked()", x.asked(), 0);
        c.due("text(0, 2), anew", x.text(0, 2), 2);
        c.due("put(0, 1, 0)", x.put(0, 1, 0), 1032);
        c.finds(x, "put(0, 2, 1)", () -> x.put(0, 2, 1), BEYOND);
        c.finds(x, "put(0, -1, 1)", () -> x.put(0, -1, 1), BEYOND);
        c.finds(x, "put(1, -1, 1)", () -> x.put(1, -1, 1), NOTHING);
        x.text(2, 0);
        c.finds(x, "put(2, 0, 1), an empty TEXT", () -> x.put(2, 0, 1), BEYOND);
        c.refused(x, "put(4, 0, 1)", () -> x.put(4, 0, 1), BAD);
        c.refused(x, "put(-1, 0, 1)", () -> x.put(-1, 0, 1), BAD);
    }

    private static void snowFault(SnowHouse x, String text, int want) {
        c.due("fault of SNOW '" + text + "'", Check.fault(x, text, false), want);
    }

    private static void planFault(SnowHouse x, String text, int want) {
        c.due("fault of PLAN '" + text + "'", Check.fault(x, text, true), want);
    }

    private static void promise10() {
        c.at("promise 10");
        SnowHouse x = new SnowHouse();
        c.finds(x, "fault(1, false)", () -> x.fault(1, false), NOTHING);
        c.refused(x, "fault(4, false)", () -> x.fault(4, false), BAD);
        c.refused(x, "fault(-1, true)", () -> x.fault(-1, true), BAD);
        for (String text : new String[] {"", "   ", "g1", "g30", "g01", "r0r9", "c0c40", "w1 w9", "  g12  r4c20w3 "}) {
            snowFault(x, text, NONE);
        }
        snowFault(x, "g0", 2);
        snowFault(x, "g00", 3);
        snowFault(x, "g31", 3);
        snowFault(x, "g310", 3);
        snowFault(x, "g012", 3);
        snowFault(x, "r10", 3);
        snowFault(x, "c41 w3", 3);
        snowFault(x, "w0", 2);
        snowFault(x, "w10", 3);
        snowFault(x, "g", 1);
        snowFault(x, "g 1", 1);
        snowFault(x, "g12 x", 4);
        snowFault(x, "G1", 0);
        snowFault(x, "5", 0);
        snowFault(x, " g1-", 3);
        snowFault(x, "gg", 1);
        snowFault(x, "g" + (char) 255, 1);
        planFaults(x);
    }

    private static void planFaults(SnowHouse x) {
        for (String text : new String[] {"r1:0", " s12:9 ", "m:1r1:0m:9", "r01:3", "r1:0s1:0 r1:0", "r1:1  m:2"}) {
            planFault(x, text, NONE);
        }
        planFault(x, "", 0);
        planFault(x, "  ", 2);
        planFault(x, "m:3 ", 4);
        planFault(x, "r", 1);
        planFault(x, "r1", 2);
        planFault(x, "r1:", 3);
        planFault(x, "r:1", 1);
        planFault(x, "r 1:1", 1);
        planFault(x, "r1 :1", 2);
        planFault(x, "r1: 1", 3);
        planFault(x, "r1:x", 3);
        planFault(x, "r0:1", 2);
        planFault(x, "r00:1", 3);
        planFault(x, "r13:1", 3);
        planFault(x, "r123:1", 3);
        planFault(x, "r1:12", 4);
        planFault(x, "x1:1", 0);
        planFault(x, "m", 1);
        planFault(x, "m1:1", 1);
        planFault(x, "m:", 2);
        planFault(x, "m:0r1:1", 2);
        planFault(x, "m: 1", 2);
        planFault(x, "m:12", 3);
        planFault(x, "g1:1", 0);
        String five = "r12:0".repeat(5);
        planFault(x, five, NONE);
        planFault(x, five + "r1:0", 27);
        planFault(x, five + "r12:0", 28);
        planFault(x, "r1:0".repeat(8), NONE);
        planFault(x, "r1:0".repeat(8) + "m:3 ", NONE);
        planFault(x, "r1:0".repeat(9), 32);
        planFault(x, "r1:0".repeat(8) + " s", 33);
        planFault(x, "r12:0".repeat(4) + "r3:0".repeat(4) + "r1:0", 36);
    }

    private static void promise11() {
        c.at("promise 11");
        SnowHouse x = new SnowHouse();
        c.due("no items", Check.snow(x, 0, ""), 0);
        int[] usual = {12, 4, 20, 3};
        for (int what = 0; what < 4; what++) c.due(x, "about(0, " + what + ")", x.about(0, what), 1, usual[what]);
        c.due("four", Check.snow(x, 3, "w9c40 r0g1"), 4);
        int[] worths = {1, 0, 40, 9};
        for (int what = 0; what < 4; what++) c.due(x, "about(3, " + what + ")", x.about(3, what), 1, worths[what]);
        c.due("told again", Check.snow(x, 3, "g5 g7 g30"), 3);
        c.due(x, "about(3, 0)", x.about(3, 0), 1, 30);
        c.due(x, "about(3, 3), anew", x.about(3, 3), 1, 3);
        c.finds(x, "snow(0, 1)", () -> x.snow(0, 1), NOTHING);
        c.refused(x, "snow(4, 1)", () -> x.snow(4, 1), BAD);
        c.refused(x, "snow(-1, 0)", () -> x.snow(-1, 0), BAD);
        c.refused(x, "snow(0, 4)", () -> x.snow(0, 4), BAD);
        c.refused(x, "snow(0, -1)", () -> x.snow(0, -1), BAD);
        Check.write(x, 1, "g7g31");
        c.refused(x, "snow(3, 1) with a FAULT", () -> x.snow(3, 1), STATE);
        c.refused(x, "snow(1, 1) with a FAULT", () -> x.snow(1, 1), STATE);
        c.due("count(0)", x.count(0), 2);
    }

    private static void promise12() {
        c.at("promise 12");
        SnowHouse x = new SnowHouse();
        c.due("one RING", Check.plan(x, 0, "r8:3"), 8);
        c.due("all", Check.plan(x, 3, "s12:0s11:1s11:2s10:3s8:4s5:5s2:7r1:9m:1"), 60);
        c.due("anew", Check.plan(x, 3, "m:4r5:1 m:7"), 5);
        c.due(x, "tells(3, 1)", x.tells(3, 1), 1, 7);
        c.finds(x, "plan(0, 1)", () -> x.plan(0, 1), NOTHING);
        c.refused(x, "plan(4, 1)", () -> x.plan(4, 1), BAD);
        c.refused(x, "plan(-1, 0)", () -> x.plan(-1, 0), BAD);
        c.refused(x, "plan(0, 4)", () -> x.plan(0, 4), BAD);
        c.refused(x, "plan(0, -1)", () -> x.plan(0, -1), BAD);
        x.text(2, 0);
        c.refused(x, "plan(3, 2), an empty TEXT", () -> x.plan(3, 2), STATE);
        Check.write(x, 1, "r3:2m:5r4");
        c.refused(x, "plan(3, 1) with a FAULT", () -> x.plan(3, 1), STATE);
        c.refused(x, "plan(1, 1) with a FAULT", () -> x.plan(1, 1), STATE);
        c.due("count(1)", x.count(1), 2);
    }

    private static void promise13() {
        c.at("promise 13");
        SnowHouse x = new SnowHouse();
        Check.snow(x, 2, "g9r8c7w6");
        for (int what = 0; what < 4; what++) c.due(x, "about(2, " + what + ")", x.about(2, what), 1, 9 - what);
        c.finds(x, "about(0, 0)", () -> x.about(0, 0), NOTHING);
        c.refused(x, "about(4, 0)", () -> x.about(4, 0), BAD);
        c.refused(x, "about(-1, 0)", () -> x.about(-1, 0), BAD);
        c.refused(x, "about(2, 4)", () -> x.about(2, 4), BAD);
        c.refused(x, "about(0, -1)", () -> x.about(0, -1), BAD);
    }

    private static void promises14and15() {
        c.at("promise 14");
        SnowHouse x = new SnowHouse();
        Check.plan(x, 1, "r9:1 s10:0 r2:9");
        int[] facts = {3, 2, 21, 4};
        for (int what = 0; what < 4; what++) c.due(x, "tells(1, " + what + ")", x.tells(1, what), 1, facts[what]);
        Check.plan(x, 2, "r1:1");
        c.due(x, "tells(2, 3)", x.tells(2, 3), 1, 0);
        c.finds(x, "tells(0, 0)", () -> x.tells(0, 0), NOTHING);
        c.refused(x, "tells(4, 0)", () -> x.tells(4, 0), BAD);
        c.refused(x, "tells(-1, 0)", () -> x.tells(-1, 0), BAD);
        c.refused(x, "tells(1, 4)", () -> x.tells(1, 4), BAD);
        c.refused(x, "tells(0, -1)", () -> x.tells(0, -1), BAD);
        c.at("promise 15");
        c.due(x, "course(1, 0)", x.course(1, 0), 1, 91);
        c.due(x, "course(1, 1)", x.course(1, 1), 2, 100);
        c.due(x, "course(1, 2)", x.course(1, 2), 1, 29);
        c.finds(x, "course(1, 3)", () -> x.course(1, 3), BEYOND);
        c.finds(x, "course(1, 8)", () -> x.course(1, 8), BEYOND);
        c.finds(x, "course(1, -1)", () -> x.course(1, -1), BEYOND);
        c.finds(x, "course(0, -1)", () -> x.course(0, -1), NOTHING);
        c.refused(x, "course(4, 0)", () -> x.course(4, 0), BAD);
        c.refused(x, "course(-1, 0)", () -> x.course(-1, 0), BAD);
    }

    public static void main(String[] args) {
        promise1();
        promise2();
        promises3and4();
        promise5();
        promise6();
        promise7();
        promises8and9();
        promise10();
        promise11();
        promise12();
        promise13();
        promises14and15();
        c.end("RowsTest");
    }
}
