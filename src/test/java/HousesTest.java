/** Promises 16 to 24: HOUSES. What is due is worked out by hand from "Terms". */
final class HousesTest {
    private static final int BAD = SnowHouse.BAD, STATE = SnowHouse.STATE, SPENT = SnowHouse.SPENT;
    private static final int NONE = SnowHouse.NONE, NOTHING = 1, UNLIKE = 3;
    private static final Check c = new Check();

    private static void pulls(SnowHouse x, int i, int pull, int hold) {
        c.due(x, "pull(" + i + ")", x.pull(i), pull, hold);
    }

    private static void fact(SnowHouse x, int i, int what, int told) {
        c.due(x, "block(" + i + ", " + what + ")", x.block(i, what), 1, told);
    }

    private static void promise16() {
        c.at("promise 16");
        SnowHouse x = new SnowHouse();
        c.finds(x, "house(0, 0, 1), neither", () -> x.house(0, 0, 1), NOTHING);
        Check.snow(x, 0, "r9");
        c.finds(x, "house(0, 0, 1), no PLAN", () -> x.house(0, 0, 1), NOTHING);
        Check.plan(x, 3, "r4:0r1:8");
        c.finds(x, "house(1, 3, 1), no SNOW", () -> x.house(1, 3, 1), NOTHING);
        c.due("house(0, 3, 1)", x.house(0, 3, 1), 5);
        c.due("count(2)", x.count(2), 0);
        c.refused(x, "house(4, 3, 1)", () -> x.house(4, 3, 1), BAD);
        c.refused(x, "house(-1, 3, 1)", () -> x.house(-1, 3, 1), BAD);
        c.refused(x, "house(0, 4, 1)", () -> x.house(0, 4, 1), BAD);
        c.refused(x, "house(0, -1, 1)", () -> x.house(0, -1, 1), BAD);
        c.refused(x, "house(1, 3, 0)", () -> x.house(1, 3, 0), BAD);
        c.refused(x, "house(1, 3, 3)", () -> x.house(1, 3, 3), BAD);
        Check.snow(x, 0, "r0 c0 w9");
        Check.plan(x, 3, "s2:9");
        c.due("go(5), by SNOW and PLAN as they were", x.go(5), 5);
        c.due(x, "slumped()", x.slumped(), 0, NONE);
        c.due("house(0, 3, 2), anew", x.house(0, 3, 2), 2);
        c.due("count(2)", x.count(2), 0);
        c.due("go(2)", x.go(2), 2);
        c.due(x, "slumped()", x.slumped(), 2, 0);
    }

    private static void promise17() {
        c.at("promise 17");
        SnowHouse x = new SnowHouse();
        c.refused(x, "go(0), no HOUSE", () -> x.go(0), STATE);
        c.refused(x, "go(61), no HOUSE", () -> x.go(61), BAD);
        SnowHouse h = Check.begun("g5 r3 c10 w3", "r3:2 r2:3 m:4", 1);
        c.refused(h, "go(-1)", () -> h.go(-1), BAD);
        c.refused(h, "go(61)", () -> h.go(61), BAD);
        c.refused(h, "go(6)", () -> h.go(6), SPENT);
        c.due("go(0)", h.go(0), 0);
        c.due("go(3)", h.go(3), 3);
        c.due(h, "slumped()", h.slumped(), 0, NONE);
        c.due("go(1)", h.go(1), 4);
        c.due(h, "slumped()", h.slumped(), 1, 3);
        c.refused(h, "go(2)", () -> h.go(2), SPENT);
        c.due("go(1)", h.go(1), 5);
        c.due(h, "slumped()", h.slumped(), 2, 3);
        c.due("go(0), all LAID", h.go(0), 5);
        c.refused(h, "go(1), all LAID", () -> h.go(1), SPENT);
        SnowHouse all = Check.begun("r9", "r12:0".repeat(5), 2);
        c.due("go(60)", all.go(60), 60);
        looksInOrder();
    }

    /** BLOCK 0 is looked at ahead of BLOCK 1, while that one still lies on it. */
    private static void looksInOrder() {
        SnowHouse x = Check.begun("r1c0w2", "r1:4r1:9", 1);
        x.go(1);
        c.due(x, "slumped()", x.slumped(), 0, NONE);
        x.go(1);
        c.due(x, "slumped()", x.slumped(), 2, 0);
        SnowHouse y = Check.built("r1c0w2", "r1:3r1:9", 1);
        c.due(y, "slumped()", y.slumped(), 1, 1);
    }

    private static void promise18() {
        c.at("promise 18");
        SnowHouse x = new SnowHouse();
        c.refused(x, "block(0, 0), no HOUSE", () -> x.block(0, 0), BAD);
        SnowHouse h = Check.begun("g5 r3 c10 w3", "r3:2 s2:3 r1:0 m:4", 1);
        c.refused(h, "block(0, 0), not LAID", () -> h.block(0, 0), BAD);
        h.go(4);
        c.refused(h, "block(4, 0), not LAID", () -> h.block(4, 0), BAD);
        c.refused(h, "block(-1, 0)", () -> h.block(-1, 0), BAD);
        c.refused(h, "block(0, 5)", () -> h.block(0, 5), BAD);
        c.refused(h, "block(0, -1)", () -> h.block(0, -1), BAD);
        h.go(2);
        int[][] facts = {{1, 0, 0, NONE, NONE}, {1, 0, 1, NONE, NONE}, {1, 0, 2, NONE, NONE}, {2, 1, 0, 0, NONE},
            {2, 1, 1, 1, NONE}, {4, 2, 0, 3, NONE}};
        for (int i = 0; i < 6; i++) for (int what = 0; what < 5; what++) fact(h, i, what, facts[i][what]);
        SnowHouse s = Check.built("g5 r3 c10 w3", "r3:2 r2:3 m:4", 1);
        fact(s, 3, 0, 6);
        fact(s, 3, 4, 3);
        fact(s, 4, 0, 6);
        fact(s, 4, 4, 4);
        fact(s, 4, 1, 1);
        kinds();
        rests();
    }

    private static void kinds() {
        SnowHouse x = Check.built("r9", "s2:0 r1:0 s1:0 r2:0 r1:0", 1);
        int[] kinds = {1, 1, 3, 2, 3, 3, 4};
        for (int i = 0; i < kinds.length; i++) fact(x, i, 0, kinds[i]);
        SnowHouse one = Check.built("r9", "r1:0", 1);
        fact(one, 0, 0, 1);
        SnowHouse spiral = Check.built("r9", "r1:0 s1:0", 1);
        fact(spiral, 1, 0, 2);
        SnowHouse door = Check.built("r9", "r3:0", 1);
        door.door(1);
        fact(door, 1, 0, 5);
        fact(door, 1, 4, NONE);
        fact(door, 0, 0, 1);
    }

    private static void rests() {
        SnowHouse x = Check.built("r9", "r5:0 r12:0 r1:0 r3:0", 1);
        int[] on = {0, 0, 0, 1, 1, 2, 2, 2, 3, 3, 4, 4};
        for (int p = 0; p < 12; p++) fact(x, 5 + p, 3, on[p]);
        fact(x, 17, 3, 5);
        for (int p = 0; p < 3; p++) fact(x, 18 + p, 3, 17);
    }

    private static void promise19() {
        c.at("promise 19");
        SnowHouse x = new SnowHouse();
        c.refused(x, "pull(0), no HOUSE", () -> x.pull(0), BAD);
        SnowHouse h = Check.begun("g5 r4 c10 w3", "r3:2 r2:3 m:4", 1);
        c.refused(h, "pull(0), not LAID", () -> h.pull(0), BAD);
        h.go(1);
        pulls(h, 0, 3, 4);
        c.refused(h, "pull(1), not LAID", () -> h.pull(1), BAD);
        c.refused(h, "pull(-1)", () -> h.pull(-1), BAD);
        h.go(1);
        pulls(h, 0, 3, 8);
        pulls(h, 1, 3, 6);
        h.go(3);
        pulls(h, 0, 4, 16);
        pulls(h, 1, 5, 16);
        pulls(h, 2, 4, 15);
        pulls(h, 3, 4, 11);
        pulls(h, 4, 4, 9);
        SnowHouse two = Check.built("g5 r4 c10 w3", "r3:2 r2:3 m:4", 2);
        pulls(two, 0, 4, 17);
        pulls(two, 3, 4, 12);
        pulls(two, 4, 4, 9);
        SnowHouse s = Check.built("g5 r3 c10 w3", "r3:2 r2:3 m:4", 1);
        pulls(s, 0, 3, 15);
        pulls(s, 3, 4, 5);
        pulls(s, 4, 4, 3);
        neighbours();
        freezing();
    }

    /** RUB and COLD 0: HOLD is 2 for each NEIGHBOUR and 3 for a closed COURSE alone. */
    private static void neighbours() {
        SnowHouse x = Check.begun("r0c0", "r2:0 s2:0 r2:0", 1);
        x.go(3);
        pulls(x, 1, 1, 5);
        pulls(x, 2, 0, 2);
        x.go(1);
        pulls(x, 0, 2, 5);
        pulls(x, 2, 0, 7);
        pulls(x, 3, 0, 5);
        x.go(2);
        int[] holds = {5, 5, 7, 7, 5, 5};
        int[] pulls = {2, 2, 2, 2, 0, 0};
        for (int i = 0; i < 6; i++) pulls(x, i, pulls[i], holds[i]);
        SnowHouse ring = Check.built("r0c0", "r3:0", 1);
        for (int i = 0; i < 3; i++) pulls(ring, i, 0, 7);
        SnowHouse spiral = Check.built("r0c0", "s3:0", 1);
        pulls(spiral, 0, 0, 5);
        pulls(spiral, 1, 0, 7);
        pulls(spiral, 2, 0, 5);
        SnowHouse one = Check.built("r0c0", "r1:0 r1:0", 2);
        pulls(one, 0, 1, 4);
        pulls(one, 1, 0, 3);
    }

    private static void freezing() {
        SnowHouse x = Check.built("g3c20r0", "r4:0m:2", 1);
        int[] frozen = {3, 3, 2, 0};
        for (int i = 0; i < 4; i++) pulls(x, i, 0, 7 + frozen[i]);
        SnowHouse y = Check.built("g9c15r0", "m:1r5:0", 1);
        int[] slow = {3, 2, 1, 0, 0};
        for (int i = 0; i < 5; i++) pulls(y, i, 0, 7 + slow[i]);
    }

    private static void promise20() {
        c.at("promise 20");
        SnowHouse none = new SnowHouse();
        c.refused(none, "mark(0, 1), no HOUSE", () -> none.mark(0, 1), BAD);
        SnowHouse x = Check.begun("r9c0w3", "r3:1 s2:2 r2:3 r1:4", 1);
        x.go(7);
        c.refused(x, "mark(7, 3), not LAID", () -> x.mark(7, 3), BAD);
        c.refused(x, "mark(-1, 1)", () -> x.mark(-1, 1), BAD);
        c.refused(x, "mark(0, 0)", () -> x.mark(0, 0), BAD);
        c.refused(x, "mark(0, 7)", () -> x.mark(0, 7), BAD);
        c.refused(x, "mark(0, -1)", () -> x.mark(0, -1), BAD);
        x.go(1);
        c.due("mark(2, 1)", x.mark(2, 1), 2);
        c.due("mark(3, 2)", x.mark(3, 2), 2);
        c.due("mark(4, 2)", x.mark(4, 2), 3);
        c.due("mark(6, 3)", x.mark(6, 3), 3);
        c.due("mark(7, 3)", x.mark(7, 3), 4);
        c.due("mark(7, 4)", x.mark(7, 4), 2);
        int[][] unlike = {{0, 2}, {0, 3}, {0, 4}, {0, 5}, {0, 6}, {3, 1}, {3, 3}, {3, 4}, {3, 6}, {5, 1}, {5, 2}, {5, 4}, {7, 2}, {7, 6}};
        for (int[] u : unlike) c.finds(x, "mark(" + u[0] + ", " + u[1] + ")", () -> x.mark(u[0], u[1]), UNLIKE);
        int asked = x.asked();
        x.door(1);
        c.due("mark(1, 1), CUT", x.mark(1, 1), 1);
        c.due("mark(1, 5), CUT", x.mark(1, 5), 2);
        c.due("asked()", x.asked(), asked);
        SnowHouse key = Check.built("r9", "r2:0 s1:0 r1:7", 1);
        c.due("mark(3, 4) on one", key.mark(3, 4), 1);
        marksOfSlumped();
    }

    private static void marksOfSlumped() {
        SnowHouse x = Check.built("r0c0w9", "r1:9 s1:0 r2:0 r1:0", 1);
        int[] were = {1, 2, 3, 3, 4};
        for (int i = 0; i < 5; i++) {
            int b = i;
            c.due("mark(" + i + ", 6)", x.mark(i, 6), were[i]);
            for (int kind = 1; kind < 6; kind++) {
                int k = kind;
                c.finds(x, "mark(" + b + ", " + k + "), SLUMPED", () -> x.mark(b, k), UNLIKE);
            }
        }
    }

    private static void promise21() {
        c.at("promise 21");
        SnowHouse none = new SnowHouse();
        c.refused(none, "door(12), no HOUSE", () -> none.door(12), BAD);
        c.refused(none, "door(-1), no HOUSE", () -> none.door(-1), BAD);
        c.refused(none, "door(0), no HOUSE", () -> none.door(0), STATE);
        SnowHouse x = Check.begun("r9c0", "r3:0r1:8", 1);
        x.go(3);
        c.refused(x, "door(0), not all LAID", () -> x.door(0), STATE);
        c.refused(x, "door(3), not all LAID", () -> x.door(3), STATE);
        x.go(1);
        c.refused(x, "door(3), no such place", () -> x.door(3), BAD);
        c.refused(x, "door(12)", () -> x.door(12), BAD);
        x.keep(0);
        c.due("door(0)", x.door(0), 1);
        c.due(x, "slumped()", x.slumped(), 1, 3);
        fact(x, 3, 4, 3);
        c.due("mark(0, 5), none on it", x.mark(0, 5), 0);
        c.refused(x, "door(1), one is CUT", () -> x.door(1), STATE);
        c.refused(x, "door(3), one is CUT", () -> x.door(3), STATE);
        c.refused(x, "door(12), one is CUT", () -> x.door(12), BAD);
        c.due("go(0)", x.go(0), 4);
        x.on(0);
        c.due("door(2)", x.door(2), 0);
        pulls(x, 3, 12, 12);
        SnowHouse s = Check.built("r0c0w9", "r2:9", 1);
        c.finds(s, "door(0), SLUMPED", () -> s.door(0), UNLIKE);
        c.refused(s, "door(2), no such place", () -> s.door(2), BAD);
        pullsAtTheDoor();
    }

    private static void pullsAtTheDoor() {
        SnowHouse x = Check.built("g5 r4 c10 w3", "r3:2 r2:3 m:4", 1);
        c.due("door(1)", x.door(1), 0);
        pulls(x, 0, 4, 11);
        pulls(x, 1, 5, 16);
        pulls(x, 2, 4, 10);
        pulls(x, 3, 6, 11);
        pulls(x, 4, 6, 9);
        SnowHouse y = Check.built("r4c0w2", "r2:4 r2:4 r1:9 r1:0", 1);
        c.due("door(0), all but it", y.door(0), 5);
        c.due(y, "slumped(), the first by its MOMENT", y.slumped(), 5, 4);
        fact(y, 1, 4, 5);
        fact(y, 2, 4, 5);
        slumpsAllOverAgain();
        SnowHouse one = Check.built("r9c0w2", "r1:0 r1:9", 1);
        pulls(one, 1, 9, 12);
        c.due("door(0), one just once", one.door(0), 0);
        pulls(one, 1, 11, 12);
    }

    /**
     * BLOCKS 6 and 7 lie on the door and SLUMP; 4 and 5 were looked at ahead of them, with three on them and less
     * to hold them now: they SLUMP at the next look.
     */
    private static void slumpsAllOverAgain() {
        SnowHouse x = Check.built("r4c0w2", "r4:0 r4:4 r12:0", 1);
        c.due(x, "slumped()", x.slumped(), 0, NONE);
        pulls(x, 4, 10, 11);
        c.due("door(3)", x.door(3), 16);
        for (int i = 4; i < 20; i++) fact(x, i, 4, 19);
        for (int i = 0; i < 3; i++) fact(x, i, 0, 1);
    }

    private static void promises22and23() {
        c.at("promises 22, 23");
        SnowHouse x = new SnowHouse();
        c.refused(x, "keep(3), no HOUSE", () -> x.keep(3), BAD);
        c.refused(x, "keep(-1), no HOUSE", () -> x.keep(-1), BAD);
        c.refused(x, "keep(0), no HOUSE", () -> x.keep(0), STATE);
        c.refused(x, "on(3)", () -> x.on(3), BAD);
        c.refused(x, "on(-1)", () -> x.on(-1), BAD);
        c.finds(x, "on(0)", () -> x.on(0), NOTHING);
        SnowHouse h = Check.begun("r4c0w2", "r2:4 r2:4 r1:9 r1:0", 2);
        c.due("keep(2), none LAID", h.keep(2), 0);
        h.go(4);
        c.due("keep(0)", h.keep(0), 4);
        long four = h.digest();
        h.go(2);
        c.due("keep(1)", h.keep(1), 6);
        c.due("count(5)", h.count(5), 3);
        h.door(0);
        c.due("on(1)", h.on(1), 6);
        c.due(h, "slumped()", h.slumped(), 2, 4);
        h.door(1);
        c.due("on(1) again", h.on(1), 6);
        c.due(h, "slumped()", h.slumped(), 2, 4);
        c.due("on(0)", h.on(0), 4);
        h.keep(1);
        h.on(2);
        c.due("go(1)", h.go(1), 1);
        h.keep(2);
        c.due("on(0)", h.on(0), 4);
        c.due("digest()", h.digest() - four, digestOfKept(3) - digestOfKept(2));
        Check.snow(h, 0, "r0");
        Check.plan(h, 0, "r1:0");
        h.house(0, 0, 1);
        c.due("on(0), another HOUSE", h.on(0), 4);
        pulls(h, 0, 6, 10);
        pulls(h, 3, 4, 9);
    }

    /** What count(5) gives to a digest of this test's object, all else being alike. */
    private static long digestOfKept(int kept) {
        SnowHouse x = Check.begun("r4c0w2", "r2:4 r2:4 r1:9 r1:0", 2);
        x.go(4);
        for (int k = 0; k < kept; k++) x.keep(k);
        return x.digest();
    }

    private static void promise24() {
        c.at("promise 24");
        SnowHouse x = new SnowHouse();
        c.refused(x, "slumped(), no HOUSE", x::slumped, STATE);
        SnowHouse h = Check.begun("r4c0w2", "r2:4 r2:4 r1:9 r1:0", 1);
        c.due(h, "slumped(), none LAID", h.slumped(), 0, NONE);
        h.go(5);
        c.due(h, "slumped()", h.slumped(), 1, 4);
        h.go(1);
        c.due(h, "slumped()", h.slumped(), 2, 4);
        SnowHouse all = Check.built("r0c0w9", "r2:9 r2:0", 1);
        c.due(all, "slumped(), all", all.slumped(), 4, 0);
    }

    public static void main(String[] args) {
        promise16();
        promise17();
        promise18();
        promise19();
        promise20();
        promise21();
        promises22and23();
        promise24();
        c.end("HousesTest");
    }
}
