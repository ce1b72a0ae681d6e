/** The edges of HOUSES (promises 16 to 24 and part 2 of "Terms"), worked out by hand. */
final class HouseEdgesTest {
    private static final int STATE = SnowHouse.STATE, NONE = SnowHouse.NONE, UNLIKE = 3;
    private static final Check c = new Check();

    /** HEAVY 2 and COLD 0: PULL is the LEAN and what lies on a BLOCK, and nothing freezes. */
    private static final String STILL = "r4c0w2";

    private static void pulls(SnowHouse x, int i, int pull, int hold) {
        c.due(x, "pull(" + i + ")", x.pull(i), pull, hold);
    }

    private static void fact(SnowHouse x, int i, int what, int told) {
        c.due(x, "block(" + i + ", " + what + ")", x.block(i, what), 1, told);
    }

    /** Two COURSES of LEAN 0: the first on which each of the upper ones RESTS, and how many lie on each lower one. */
    private static void rest(int below, int above, int[] firsts, int[] loads) {
        c.at("RESTS, " + above + " on " + below);
        SnowHouse x = Check.built("r9c0w1", "r" + below + ":0r" + above + ":0", 1);
        for (int p = 0; p < below; p++) {
            fact(x, p, 3, NONE);
            c.due("pull(" + p + ")", x.pull(p), loads[p]);
        }
        for (int p = 0; p < above; p++) fact(x, below + p, 3, firsts[p]);
    }

    private static void rests() {
        rest(1, 1, new int[] {0}, new int[] {1});
        rest(1, 3, new int[] {0, 0, 0}, new int[] {3});
        rest(2, 1, new int[] {0}, new int[] {1, 1});
        rest(3, 1, new int[] {0}, new int[] {1, 1, 0});
        rest(2, 2, new int[] {0, 1}, new int[] {2, 2});
        rest(3, 3, new int[] {0, 1, 2}, new int[] {2, 2, 2});
        rest(3, 2, new int[] {0, 1}, new int[] {1, 2, 1});
        rest(2, 3, new int[] {0, 0, 1}, new int[] {3, 3});
        rest(5, 12, new int[] {0, 0, 0, 1, 1, 2, 2, 2, 3, 3, 4, 4}, new int[] {5, 5, 5, 5, 4});
        rest(12, 5, new int[] {0, 2, 4, 7, 9}, new int[] {1, 1, 1, 1, 1, 1, 0, 1, 1, 1, 1, 0});
        rest(12, 12, new int[] {0, 1, 2, 3, 4, 5, 6, 7, 8, 9, 10, 11}, new int[] {2, 2, 2, 2, 2, 2, 2, 2, 2, 2, 2, 2});
        c.at("RESTS, behind the last the first");
        SnowHouse x = Check.built("r9c0w1", "r3:0r3:0", 1);
        c.due("door(0)", x.door(0), 0);
        c.due("mark(0, 5)", x.mark(0, 5), 2);
        int[] pulls = {2, 0, 2};
        for (int p = 0; p < 3; p++) c.due("pull(" + (3 + p) + ")", x.pull(3 + p), pulls[p]);
    }

    private static void holds(String plan, int laid, int... holds) {
        c.at("NEIGHBOURS, " + laid + " of " + plan);
        SnowHouse x = Check.begun("r0c0w1", plan, 1);
        x.go(laid);
        for (int i = 0; i < laid; i++) {
            x.pull(i);
            c.due("HOLD of " + i, x.asked(), holds[i]);
        }
    }

    /** RUB and COLD 0: HOLD is 2 for each NEIGHBOUR, 3 for a closed COURSE. */
    private static void neighbours() {
        holds("r1:0", 1, 3);
        holds("r2:0", 1, 0);
        holds("r2:0", 2, 5, 5);
        holds("r3:0", 2, 2, 2);
        holds("r3:0", 3, 7, 7, 7);
        holds("r4:0", 3, 2, 4, 2);
        holds("r12:0", 11, 2, 4, 4, 4, 4, 4, 4, 4, 4, 4, 2);
        holds("r12:0", 12, 7, 7, 7, 7, 7, 7, 7, 7, 7, 7, 7, 7);
        holds("s1:0", 1, 3);
        holds("s2:0", 2, 5, 5);
        holds("s3:0", 2, 2, 2);
        holds("s3:0", 3, 5, 7, 5);
        SnowHouse most = Check.built("r0c0w1", "s12:0".repeat(5), 1);
        pulls(most, 0, 2, 5);
        pulls(most, 12, 2, 7);
        pulls(most, 59, 0, 5);
        holds("s12:0", 12, 5, 7, 7, 7, 7, 7, 7, 7, 7, 7, 7, 5);
        holds("s1:0s1:0s1:0", 2, 5, 5);
        holds("s1:0s1:0s1:0", 3, 5, 7, 5);
        holds("r2:0s1:0", 3, 5, 5, 5);
        holds("s2:0r2:0", 2, 5, 5);
        holds("s2:0r2:0", 3, 5, 7, 0);
        holds("s2:0r2:0", 4, 5, 7, 5, 5);
        holds("r1:0r1:0", 2, 3, 3);
        holds("r1:0s1:0r1:0", 3, 3, 7, 3);
    }

    /** A NEIGHBOUR that is SLUMPED or CUT counts no more, nor is a COURSE with one closed. */
    private static void lostNeighbours() {
        c.at("NEIGHBOURS that are lost");
        SnowHouse sound = Check.built("r1c0w2", "s1:3r1:4", 1);
        pulls(sound, 0, 4, 6);
        SnowHouse slumped = Check.built("r1c0w2", "s1:3r1:5", 1);
        pulls(slumped, 0, 3, 4);
        pulls(slumped, 1, 5, 4);
        SnowHouse cut = Check.built("r0c0w2", "r3:0", 1);
        cut.door(1);
        pulls(cut, 0, 0, 2);
        pulls(cut, 1, 0, 7);
        pulls(cut, 2, 0, 2);
        SnowHouse pair = Check.built("r0c0w2", "s2:0", 1);
        pair.door(0);
        pulls(pair, 0, 0, 5);
        pulls(pair, 1, 0, 0);
    }

    private static void frozen(String snow, String plan, int... holds) {
        c.at("FROZEN, " + snow + ", " + plan);
        SnowHouse x = Check.built(snow, plan, 1);
        for (int i = 0; i < holds.length; i++) {
            x.pull(i);
            c.due("HOLD of " + i, x.asked(), holds[i]);
        }
    }

    /** A RING of 2 holds by 5, of 3 and more by 7, and what is FROZEN and RUB. */
    private static void freezing() {
        frozen("g30r0c0", "m:9r3:0", 7, 7, 7);
        frozen("g30r0c19", "m:1r2:0", 5, 5);
        frozen("g30r0c20", "m:1r2:0", 6, 5);
        frozen("g30r0c39", "m:1r2:0", 6, 5);
        frozen("g30r0c40", "m:1r2:0", 7, 5);
        frozen("g30r0c1", "m:9r4:0", 8, 7, 7, 7);
        frozen("g1r0c40", "m:9r3:0", 8, 8, 7);
        frozen("g17r0c20", "m:9r3:0", 24, 16, 7);
        frozen("g18r0c20", "m:9r3:0", 25, 16, 7);
        frozen("g19r0c20", "m:9r3:0", 25, 16, 7);
        frozen("g30r9c40", "m:9r3:0", 46, 34, 16);
        frozen("g30r0c40", "m:9" + "r12:0".repeat(5), 37, 37, 37);
        frozen("r0", "r3:0", 11, 9, 7);
        frozen("", "m:3r3:0", 17, 14, 11);
    }

    private static void builders() {
        c.at("BUILDERS");
        SnowHouse one = Check.built("r4c0", "r1:0", 2);
        pulls(one, 0, 0, 7);
        SnowHouse x = Check.begun("r4c0", "r2:0r1:0", 2);
        x.go(1);
        pulls(x, 0, 0, 4);
        x.go(1);
        pulls(x, 0, 0, 10);
        pulls(x, 1, 0, 9);
        x.go(1);
        pulls(x, 1, 1, 10);
        pulls(x, 2, 0, 7);
        x.door(0);
        pulls(x, 1, 1, 5);
        pulls(x, 2, 2, 7);
    }

    private static void stands(String snow, String plan, int slumped) {
        SnowHouse x = Check.built(snow, plan, 1);
        c.due("slumped() of " + snow + ", " + plan, x.slumped(), slumped);
    }

    /** PULL as much as HOLD stands, one more SLUMPS. */
    private static void pullAndHold() {
        c.at("PULL and HOLD");
        stands(STILL, "r1:7", 0);
        stands(STILL, "r1:8", 1);
        stands("r0c0w1", "r1:7", 0);
        stands("r0c0w1", "r1:8", 1);
        stands("r1c0w1", "r1:9", 0);
        stands("r1c0w9", "r1:1", 0);
        stands("r0c0w9", "r1:1", 1);
        stands(STILL, "r2:4", 0);
        stands(STILL, "r2:5", 2);
        stands(STILL, "r1:6r1:7", 0);
        stands(STILL, "r1:7r1:7", 2);
        stands(STILL, "r1:6r1:8", 1);
        stands(STILL, "r1:0s1:9", 0);
        stands("r3c0w2", "r1:0s1:9", 1);
        SnowHouse most = Check.built("r9c0w9", "r1:9", 1);
        pulls(most, 0, 40, 12);
        SnowHouse least = Check.built("r0c0w1", "r1:1", 1);
        pulls(least, 0, 0, 3);
        SnowHouse odd = Check.built("r9c0w3", "r1:3", 1);
        pulls(odd, 0, 4, 12);
    }

    /**
     * BLOCK 4 has seven on it and SLUMPS; 5 lost it and SLUMPS; 6 to 9 lie on 3 and 4, 14 to 17 on 5 and 3: they SLUMP
     * by one of the two alone, for 3 holds what is on it.
     */
    private static void slumpsByOneOfTwo() {
        c.at("RESTS on one that is SLUMPED");
        SnowHouse x = Check.begun(STILL, "r3:0s3:5r12:0", 1);
        x.go(12);
        c.due(x, "slumped()", x.slumped(), 0, NONE);
        pulls(x, 4, 11, 11);
        x.go(1);
        c.due(x, "slumped()", x.slumped(), 9, 4);
        pulls(x, 3, 5, 6);
        x.go(5);
        c.due(x, "slumped()", x.slumped(), 14, 4);
        for (int i = 4; i < 13; i++) fact(x, i, 4, 12);
        for (int i = 13; i < 18; i++) fact(x, i, 4, i);
        for (int i = 0; i < 4; i++) fact(x, i, 4, NONE);
        fact(x, 3, 0, 2);
    }

    private static void forGood() {
        c.at("SLUMPED for good");
        SnowHouse x = Check.built("r0c20w2g30", "r2:1", 1);
        fact(x, 0, 0, 6);
        fact(x, 0, 4, 0);
        pulls(x, 0, 1, 2);
        c.due(x, "slumped()", x.slumped(), 2, 0);
        x.go(0);
        c.due(x, "slumped()", x.slumped(), 2, 0);
    }

    /** go(n) lays as go(1) n times does. */
    private static void momentByMoment() {
        c.at("MOMENT by MOMENT");
        SnowHouse at = Check.begun(STILL, "r3:0s3:6r12:0", 1);
        SnowHouse by = Check.begun(STILL, "r3:0s3:6r12:0", 1);
        c.due("go(18)", at.go(18), 18);
        for (int i = 1; i <= 18; i++) c.due("go(1)", by.go(1), i);
        c.due("digest()", at.digest(), by.digest());
    }

    private static void kindIs(String plan, int... kinds) {
        SnowHouse x = Check.built("r9c0w1", plan, 1);
        for (int i = 0; i < kinds.length; i++) {
            fact(x, i, 0, kinds[i]);
            for (int kind = 1; kind <= 6; kind++) {
                boolean is = kind == kinds[i] || kind == 3 && kinds[i] == 4;
                c.due(plan + ", mark(" + i + ", " + kind + ") fits", x.mark(i, kind) >= 0 ? 1 : 0, is ? 1 : 0);
            }
        }
    }

    private static void kinds() {
        c.at("KINDS");
        kindIs("r1:0", 1);
        kindIs("s1:0", 1);
        kindIs("r1:0r1:0", 1, 4);
        kindIs("r1:0s1:0", 1, 2);
        kindIs("r1:0r2:0", 1, 3, 3);
        kindIs("r1:0r1:0r1:0", 1, 3, 4);
        kindIs("s1:0r1:0s1:0", 1, 3, 2);
        kindIs("s2:0s1:0r1:0", 1, 1, 2, 4);
    }

    /** What each of all KINDS tells: {BLOCK, KIND, answer}, UNLIKE for all others. */
    private static void marks() {
        c.at("promise 20");
        int[][] tells = {{0, 1, 0}, {1, 1, 1}, {1, 5, 2}, {2, 1, 2}, {3, 2, 2}, {4, 2, 3}, {5, 3, 3}, {6, 3, 3}, {7, 3, 4}, {7, 4, 2}};
        for (int i = 0; i < 8; i++) {
            for (int kind = 1; kind <= 6; kind++) {
                SnowHouse x = Check.built("r9c0w2", "r3:0s2:2r2:3r1:4", 1);
                c.due("door(1)", x.door(1), 0);
                int b = i;
                int k = kind;
                int want = -1;
                for (int[] t : tells) if (t[0] == i && t[1] == kind) want = t[2];
                if (want < 0) c.finds(x, "mark(" + b + ", " + k + ")", () -> x.mark(b, k), UNLIKE);
                else c.due("mark(" + b + ", " + k + ")", x.mark(b, k), want);
            }
        }
        SnowHouse one = Check.built("r9c0w2", "r3:0r1:0r1:9", 1);
        c.due("mark(4, 4), on one", one.mark(4, 4), 1);
        c.due("mark(4, 3)", one.mark(4, 3), 9);
        SnowHouse steep = Check.built("r9c0w1", "s12:0s12:0", 1);
        c.due("mark(12, 2), ahead of it one of another COURSE", steep.mark(12, 2), 11);
        c.due("mark(23, 2)", steep.mark(23, 2), 22);
        c.due("mark(11, 1)", steep.mark(11, 1), 11);
        SnowHouse laid = Check.begun("r9c0w1", "r3:0s2:0r2:7", 1);
        laid.go(6);
        c.due("mark(5, 3), not all LAID", laid.mark(5, 3), 7);
        SnowHouse all = Check.built("r0c0w9", "r2:9s1:0r2:0r1:0", 1);
        int[] were = {1, 1, 2, 3, 3, 4};
        for (int i = 0; i < 6; i++) c.due("mark(" + i + ", 6)", all.mark(i, 6), were[i]);
    }

    private static void doors() {
        c.at("promise 21");
        for (int p = 0; p < 12; p++) {
            SnowHouse x = Check.built("r9c0w1", "r12:0r3:0", 1);
            c.due("door(" + p + ")", x.door(p), 0);
            fact(x, p, 0, 5);
            c.due("count(4), CUT too", x.count(4), 12);
            c.due("door again", x.door(p == 0 ? 1 : 0), STATE);
        }
        SnowHouse eleven = Check.built("r9c0w1", "r11:0", 1);
        c.due("door(11) of 11", eleven.door(11), SnowHouse.BAD);
        c.due("door(10) of 11", eleven.door(10), 0);
        SnowHouse sole = Check.built("r9c0w1", "r1:0", 1);
        c.due("door(0) of 1", sole.door(0), 0);
        c.due("count(3)", sole.count(3), 0);
        c.due("count(4)", sole.count(4), 1);
        c.due(sole, "slumped()", sole.slumped(), 0, NONE);
        SnowHouse holds = Check.built("r8c0w2", "r1:0r1:9", 1);
        c.due("door(0), PULL as much as HOLD", holds.door(0), 0);
        pulls(holds, 1, 11, 11);
        SnowHouse falls = Check.built("r7c0w2", "r1:0r1:9", 1);
        c.due("slumped() ahead", falls.slumped(), 0);
        c.due("door(0), PULL one above HOLD", falls.door(0), 1);
        fact(falls, 1, 4, 1);
        c.due("mark(0, 5)", falls.mark(0, 5), 0);
        pulls(falls, 1, 11, 10);
    }

    /** BLOCK 3 RESTS on places 0 and 1 of 3: it SLUMPS by a door at one of these, not by one at place 2. */
    private static void doorsBelowOne() {
        int[] slumped = {1, 1, 0};
        for (int p = 0; p < 3; p++) {
            SnowHouse x = Check.built("r5c0w2", "r3:0r1:7", 1);
            c.due("door(" + p + ") below one on 0 and 1", x.door(p), slumped[p]);
        }
        SnowHouse one = Check.built(STILL, "r2:0r1:0r1:8", 1);
        c.due("slumped()", one.slumped(), 1);
        c.due("door(1) while another is SLUMPED", one.door(1), 1);
        SnowHouse again = Check.built("r0c0w2", "s2:0r2:1", 1);
        c.due("slumped(), the upper two", again.slumped(), 2);
        c.due("door(0)", again.door(0), 2);
    }

    private static void slumpsByDoor(String snow, String plan, int p, int... slumped) {
        SnowHouse x = Check.built(snow, plan, 1);
        c.due("slumped() ahead of door(" + p + ") of " + plan, x.slumped(), 0);
        c.due("door(" + p + ") of " + plan, x.door(p), slumped.length);
        x.tells(0, 2);
        int last = x.asked() - 1;
        for (int i : slumped) fact(x, i, 4, last);
        fact(x, p, 4, NONE);
    }

    /** BLOCK 0 is looked at, too, and again; those on it SLUMP, be it the first or the next on which they REST. */
    private static void doorsBesideTheFirst() {
        slumpsByDoor("r1c0w2", "r2:1r1:3", 1, 0, 2);
        slumpsByDoor("r0c0w2", "s2:0r1:0", 1, 0, 2);
        slumpsByDoor("r3c0w2", "s2:2s2:1", 1, 0, 2, 3);
        // 0 just holds as long as 2 does; 2 SLUMPS and with it 5, 6, 7; at the next look 0 SLUMPS, then 3 and 4
        slumpsByDoor("r3c3w2g9", "r3:3r5:2m:1", 1, 0, 2, 3, 4, 5, 6, 7);
    }

    /**
     * The first look takes 4 (beside the door), 12 to 15 by it, and 19 with those on it; the second 17 and 18, whose
     * RING is open now; only the third the last of the COURSE below, 16, which has lost 15 and now 17, too.
     */
    private static void looksAgainBelow() {
        slumpsByDoor("r0c0w2", "r7:0s10:1r3:0r7:0", 5, 4, 12, 13, 14, 15, 16, 17, 18, 19, 20, 21, 22, 23, 24, 25, 26);
    }

    private static void keeps() {
        c.at("promises 22, 23");
        SnowHouse x = Check.begun(STILL, "r3:0s3:5r12:0", 1);
        c.due("keep(0), none LAID", x.keep(0), 0);
        x.go(12);
        c.due("keep(1)", x.keep(1), 12);
        x.go(6);
        x.door(0);
        c.due("keep(2), a door cut", x.keep(2), 18);
        c.due("count(5)", x.count(5), 3);
        int slumped = x.slumped();
        Check.snow(x, 0, "r9");
        Check.plan(x, 0, "m:9r1:0");
        c.due("house", x.house(0, 0, 2), 1);
        c.due("on(2)", x.on(2), 18);
        c.due("slumped(), as kept", x.slumped(), slumped);
        c.due("door, one is CUT", x.door(1), STATE);
        c.due("go(1), all LAID", x.go(1), SnowHouse.SPENT);
        c.due("on(0)", x.on(0), 0);
        c.due("count(2)", x.count(2), 0);
        c.due("go(19)", x.go(19), SnowHouse.SPENT);
        c.due("go(18)", x.go(18), 18);
        c.due(x, "slumped(), by SNOW and PLAN as they were", x.slumped(), 14, 4);
        c.due("door(0), none is CUT here", x.door(0) >= 14 ? 1 : 0, 1);
        c.due("on(1)", x.on(1), 12);
        c.due(x, "slumped()", x.slumped(), 0, NONE);
        c.due("go(1), gone on from", x.go(1), 13);
        c.due(x, "slumped()", x.slumped(), 9, 4);
        c.due("on(1), what was kept stays", x.on(1), 12);
        c.due(x, "slumped()", x.slumped(), 0, NONE);
        c.due("keep(0), in another's place", x.keep(0), 12);
        c.due("on(0)", x.on(0), 12);
        c.due("on(2)", x.on(2), 18);
        c.due("count(5)", x.count(5), 3);
    }

    /** By MOMENTS first: BLOCK 4 at MOMENT 4, BLOCK 1 only at the door; then by numbers. */
    private static void firstSlumped() {
        c.at("promise 24");
        SnowHouse x = Check.built(STILL, "r2:4r2:4r1:9r1:0", 1);
        c.due(x, "slumped()", x.slumped(), 2, 4);
        fact(x, 4, 4, 4);
        fact(x, 5, 4, 5);
        c.due("door(0)", x.door(0), 5);
        c.due(x, "slumped()", x.slumped(), 5, 4);
        SnowHouse at = Check.built("r1c0w2", "r1:4r1:9", 1);
        c.due(at, "slumped(), two at one MOMENT", at.slumped(), 2, 0);
        fact(at, 0, 4, 1);
        fact(at, 1, 4, 1);
    }

    public static void main(String[] args) {
        rests();
        neighbours();
        lostNeighbours();
        freezing();
        builders();
        pullAndHold();
        slumpsByOneOfTwo();
        forGood();
        momentByMoment();
        kinds();
        marks();
        doors();
        doorsBelowOne();
        doorsBesideTheFirst();
        looksAgainBelow();
        keeps();
        firstSlumped();
        c.end("HouseEdgesTest");
    }
}
