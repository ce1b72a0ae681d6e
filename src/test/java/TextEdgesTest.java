/** The edges of ROWS, TEXTS, SNOWS and PLANS (promises 2 to 15 and part 1 of "Terms"), one object for each look. */
final class TextEdgesTest {
    private static final int STATE = SnowHouse.STATE, NONE = SnowHouse.NONE;
    private static final int LEAST = Integer.MIN_VALUE, MOST = Integer.MAX_VALUE;
    private static final Check c = new Check();

    private static void snowFault(String text, int want) {
        c.due("fault of SNOW '" + text + "'", Check.fault(new SnowHouse(), text, false), want);
        c.due("snow by '" + text + "'", Check.snow(new SnowHouse(), 1, text) == STATE ? 1 : 0, want == NONE ? 0 : 1);
    }

    private static void planFault(String text, int want) {
        c.due("fault of PLAN '" + text + "'", Check.fault(new SnowHouse(), text, true), want);
        c.due("plan by '" + text + "'", Check.plan(new SnowHouse(), 1, text) == STATE ? 1 : 0, want == NONE ? 0 : 1);
    }

    private static void snowIs(String text, int items, int... worths) {
        SnowHouse x = new SnowHouse();
        c.due("snow by '" + text + "'", Check.snow(x, 3, text), items);
        for (int what = 0; what < 4; what++) c.due(x, "'" + text + "', about " + what, x.about(3, what), 1, worths[what]);
    }

    /** COURSES are told as 1000 times the form, 10 times the BLOCKS, and the LEAN. */
    private static void planIs(String text, int minutes, int blocks, int places, int... courses) {
        SnowHouse x = new SnowHouse();
        c.due("plan by '" + text + "'", Check.plan(x, 3, text), blocks);
        int[] facts = {courses.length, minutes, blocks, places};
        for (int what = 0; what < 4; what++) c.due(x, "'" + text + "', tells " + what, x.tells(3, what), 1, facts[what]);
        for (int y = 0; y < courses.length; y++) {
            c.due(x, "'" + text + "', course " + y, x.course(3, y), courses[y] / 1000, courses[y] % 1000);
        }
        c.due("'" + text + "', one COURSE more", x.course(3, courses.length), -3);
        c.due("'" + text + "', one COURSE more", x.finding(), 2);
    }

    private static void rows() {
        c.at("ROWS");
        for (int r = 0; r < 6; r++) {
            SnowHouse x = new SnowHouse();
            c.due("at, missing at first", x.at(r, 0), -3);
            c.due("row of 60", x.row(r, 60), 60);
            c.due("count(6)", x.count(6), 1);
            for (int i : new int[] {0, 59}) {
                c.due(x, "at " + i, x.at(r, i), 1, 0);
                c.due(x, "lay the least", x.lay(r, i, LEAST), 1, 0);
                c.due(x, "lay the most", x.lay(r, i, MOST), 1, LEAST);
                c.due(x, "at " + i, x.at(r, i), 1, MOST);
            }
            c.due("row of 1, anew", x.row(r, 1), 1);
            c.due(x, "at 0, anew", x.at(r, 0), 1, 0);
            c.due("at 1, anew", x.at(r, 1), -3);
            c.due("row of 60, anew", x.row(r, 60), 60);
            c.due(x, "at 59, anew", x.at(r, 59), 1, 0);
            c.due("row of 0", x.row(r, 0), 0);
            c.due("an empty one is there", x.count(6), 1);
            c.due("tear", x.tear(r), 1);
            c.due("a torn one is missing", x.count(6), 0);
            c.due("at, torn", x.at(r, 0), -3);
            c.due("it was NOTHING", x.finding(), 1);
            c.due("row, after tear", x.row(r, 2), 2);
            c.due(x, "at 1, after tear", x.at(r, 1), 1, 0);
        }
    }

    /** As if taken ahead: forth and back over itself, all but one place. */
    private static void copies() {
        c.at("copy");
        int[][] ways = {{0, 1, 59}, {1, 0, 59}, {0, 0, 60}, {0, 59, 1}, {59, 0, 1}, {10, 20, 40}, {20, 10, 40}, {60, 60, 0}};
        for (int[] way : ways) {
            SnowHouse x = new SnowHouse();
            x.row(2, 60);
            for (int i = 0; i < 60; i++) x.lay(2, i, 100 + i);
            c.due("copy over itself", x.copy(2, way[0], 2, way[1], way[2]), 1);
            for (int i = 0; i < 60; i++) {
                boolean inside = i >= way[1] && i < way[1] + way[2];
                c.due(x, "copy over itself, at " + i, x.at(2, i), 1, 100 + (inside ? i - way[1] + way[0] : i));
            }
        }
        SnowHouse x = new SnowHouse();
        Check.fill(x, 0, 1, 2, 3);
        Check.fill(x, 5, 7, 8, 9, 6);
        c.due("copy(0, 2, 5, 3, 1)", x.copy(0, 2, 5, 3, 1), 1);
        int[] now = {7, 8, 9, 3};
        for (int i = 0; i < 4; i++) c.due(x, "at(5, " + i + ")", x.at(5, i), 1, now[i]);
        for (int i = 0; i < 3; i++) c.due(x, "at(0, " + i + ")", x.at(0, i), 1, i + 1);
    }

    private static void means() {
        c.at("mean");
        int[][] rows = {{7, 7}, {-7, -7}, {1, 0, 0}, {-1, 0, 0}, {5, 2, -2, 0}, {-3, -4, 0, 2}, {MOST, MOST}, {LEAST, LEAST},
            {LEAST, MOST}, {MOST, MOST, MOST - 1}, {2, 3}, {-2, -3}, {LEAST}, {MOST}, {0}};
        int[] means = {7, -7, 0, 0, 1, -1, MOST, LEAST, 0, MOST - 1, 2, -2, LEAST, MOST, 0};
        for (int i = 0; i < rows.length; i++) {
            SnowHouse x = new SnowHouse();
            Check.fill(x, 1, rows[i]);
            c.due(x, "mean " + i, x.mean(1), 1, means[i]);
        }
        for (int v : new int[] {LEAST, MOST}) {
            SnowHouse x = new SnowHouse();
            x.row(1, 60);
            for (int i = 0; i < 60; i++) x.lay(1, i, v);
            c.due(x, "mean of 60", x.mean(1), 1, v);
        }
    }

    private static void texts() {
        c.at("TEXTS");
        for (int t = 0; t < 4; t++) {
            SnowHouse x = new SnowHouse();
            c.due("put, missing at first", x.put(t, 0, 1), -3);
            c.due("text of 80", x.text(t, 80), 80);
            c.due("put 0", x.put(t, 0, 127), 1032);
            c.due("put 79", x.put(t, 79, -128), 1032);
            c.due("put 79 again", x.put(t, 79, 128), 872);
            c.due("put 79 again", x.put(t, 79, 0), 872);
            c.due("put 0 again", x.put(t, 0, -129), 1127);
            c.due("put 0 again", x.put(t, 0, 255), 1127);
            c.due("put 0 again", x.put(t, 0, 256), 999);
            c.due("put 0 again", x.put(t, 0, LEAST), 1000);
            c.due("put 0 again", x.put(t, 0, MOST), 1000);
            c.due("put 0 again", x.put(t, 0, 0), 999);
            c.due("text of 1, anew", x.text(t, 1), 1);
            c.due("put 0, anew", x.put(t, 0, 1), 1032);
            c.due("put 1, anew", x.put(t, 1, 1), -3);
            c.due("text of 80, anew", x.text(t, 80), 80);
            c.due("put 79, anew", x.put(t, 79, 1), 1032);
            c.due("text of 0", x.text(t, 0), 0);
            c.due("an empty one is there", x.count(7), 1);
        }
    }

    private static void snowNumbers() {
        c.at("SNOWS, numbers");
        String letters = "grcw";
        int[] least = {1, 0, 0, 1};
        int[] most = {30, 9, 40, 9};
        for (int what = 0; what < 4; what++) {
            for (int v = 0; v < 100; v++) {
                boolean fits = v >= least[what] && v <= most[what];
                String two = letters.charAt(what) + "" + v / 10 + v % 10;
                snowFault(two, fits ? NONE : 3);
                if (v < 10) snowFault(letters.charAt(what) + "" + v, fits ? NONE : 2);
                snowFault("  " + two + " g12", fits ? NONE : 5);
                int[] worths = {12, 4, 20, 3};
                worths[what] = v;
                if (fits) snowIs(two, 1, worths);
            }
        }
    }

    private static void snowItems() {
        c.at("SNOWS, items");
        snowIs("", 0, 12, 4, 20, 3);
        snowIs(" ".repeat(80), 0, 12, 4, 20, 3);
        snowIs("g1".repeat(40), 40, 1, 4, 20, 3);
        snowIs("   g9   r8   c7   w6   ", 4, 9, 8, 7, 6);
        snowIs("g9r8c7w6", 4, 9, 8, 7, 6);
        snowIs("g09r08c07w06", 4, 9, 8, 7, 6);
        snowIs("w1w9 g30 w2 g1", 5, 1, 4, 20, 2);
        snowIs("c40c0", 2, 12, 4, 0, 3);
        snowFault(" ".repeat(79) + "g", 80);
        snowFault(" ".repeat(78) + "g1", NONE);
        snowFault("g1".repeat(39) + " r", 80);
        snowFault("g1".repeat(39) + "w0", 80);
        snowFault("g31g5", 3);
        snowFault("g5g31", 5);
        snowFault("g5 g31 x", 6);
        snowFault("x g31", 0);
    }

    private static void snowSigns() {
        c.at("SNOWS, signs");
        for (int sign = 0; sign < 256; sign++) {
            String s = "" + (char) sign;
            boolean isBlank = sign == 32;
            boolean isLetter = "grcw".contains(s);
            boolean isFigure = sign >= 48 && sign <= 57;
            snowFault(s, isBlank ? NONE : isLetter ? 1 : 0);
            snowFault("g" + s, isFigure ? sign == 48 ? 2 : NONE : 1);
            snowFault("g1" + s, isFigure || isBlank ? NONE : isLetter ? 3 : 2);
            snowFault("g12" + s, isBlank ? NONE : isLetter ? 4 : 3);
            snowFault("g1 " + s + "5", isBlank ? 4 : isLetter ? NONE : 3);
        }
        SnowHouse x = new SnowHouse();
        x.text(0, 2);
        x.put(0, 0, 103 + 256);
        x.put(0, 1, 49 - 512);
        c.due("a sign cut to a byte", x.snow(0, 0), 1);
    }

    private static void planNumbers() {
        c.at("PLANS, numbers");
        for (String form : new String[] {"r", "s"}) {
            for (int n = 0; n < 100; n++) {
                boolean fits = n >= 1 && n <= 12;
                planFault(form + n / 10 + n % 10 + ":0", fits ? NONE : 3);
                if (n < 10) planFault(form + n + ":9", fits ? NONE : 2);
                if (fits) planIs(form + n + ":7", 2, n, n / 2, (form.equals("r") ? 1000 : 2000) + 10 * n + 7);
            }
        }
        for (int sign = 0; sign < 256; sign++) {
            String s = "" + (char) sign;
            boolean isFigure = sign >= 48 && sign <= 57;
            planFault("r3:" + s, isFigure ? NONE : 3);
            planFault("r12:" + s, isFigure ? NONE : 4);
            planFault("r3:1m:" + s, isFigure && sign > 48 ? NONE : 6);
        }
        for (int v = 1; v < 10; v++) planIs("m:" + v + "r3:" + v, v, 3, 1, 1030 + v);
        planIs("r3:0", 2, 3, 1, 1030);
        planIs("m:9r3:0m:1", 1, 3, 1, 1030);
        planIs("m:1m:9 s3:0", 9, 3, 1, 2030);
    }

    private static void planSigns() {
        c.at("PLANS, signs");
        for (int sign = 0; sign < 256; sign++) {
            String s = "" + (char) sign;
            boolean isBlank = sign == 32;
            boolean isForm = "rs".contains(s);
            boolean isItem = isForm || sign == 109;
            boolean isFigure = sign >= 48 && sign <= 57;
            planFault(s, isBlank || isItem ? 1 : 0);
            planFault(s + "1:1", isBlank ? 1 : isForm ? NONE : sign == 109 ? 1 : 0);
            planFault("r" + s, isFigure ? 2 : 1);
            planFault("r" + s + ":1", !isFigure ? 1 : sign == 48 ? 2 : NONE);
            planFault("r1" + s, isFigure || sign == 58 ? 3 : 2);
            planFault("r12" + s + "1", sign == 58 ? NONE : 3);
            planFault("r1:0m" + s + "1", sign == 58 ? NONE : 5);
            planFault("r1:0" + s, isBlank ? NONE : isItem ? 5 : 4);
            planFault("m:1" + s, isBlank || isItem ? 4 : 3);
        }
        planFault("r1:10", 4);
        planFault("r1:0 0", 5);
        planFault("r1:0m:10", 7);
        planFault("r01:0", NONE);
        planFault("r012:0", 3);
        planFault("r1 2:0", 2);
        planFault("r 12:0", 1);
        planFault("r12 :0", 3);
        planFault("r12: 0", 4);
        planFault("r1:0m :1", 5);
        planFault("r1:0m: 1", 6);
    }

    private static void planSizes() {
        c.at("PLANS, how many");
        planFault("", 0);
        planFault(" ".repeat(80), 80);
        planFault("m:1", 3);
        planFault("m:1  ", 5);
        planFault(" m:1m:2", 7);
        planFault("m:1  x", 5);
        planIs(" ".repeat(76) + "r1:0", 2, 1, 0, 1010);
        planIs("r1:0" + " ".repeat(76), 2, 1, 0, 1010);
        planIs("r1:0s1:1 m:3r1:2s1:3 r1:4s1:5 r1:6s1:7m:4", 4, 8, 0, 1010, 2011, 1012, 2013, 1014, 2015, 1016, 2017);
        planIs("r12:9".repeat(5), 2, 60, 6, 1129, 1129, 1129, 1129, 1129);
        planIs("r10:0s10:0r10:0s10:0r8:0s6:0r5:0s1:0", 2, 60, 5, 1100, 2100, 1100, 2100, 1080, 2060, 1050, 2010);
        planFault("r10:0s10:0r10:0s10:0r8:0s6:0r5:0s2:0", 34);
        planFault("r10:0s10:0r10:0s10:0r8:0s6:0r5:0s02:0", 35);
        planFault("r12:0".repeat(4) + "r11:0r1:0", NONE);
        planFault("r12:0".repeat(4) + "r11:0r2:0", 27);
        planFault("r12:0".repeat(4) + "r11:0r02:0", 28);
        planFault("r12:0".repeat(5) + "m:1", NONE);
        planFault("r12:0".repeat(5) + "r0:0", 27);
        planFault("r1:0".repeat(8) + " " + "m:1".repeat(15), NONE);
        planFault("r1:0".repeat(8) + " s1:0", 33);
        planFault("r1:0".repeat(8) + "r99:0", 32);
        planFault("r1:0".repeat(8) + "x", 32);
        planFault("r12:0".repeat(4) + "r9:0r1:0r1:0r1:0s1:0", 36);
        planFault("r1:0".repeat(7) + "s13:0", 31);
        planFault(" ".repeat(77) + "r1:", 80);
        planFault("r1:0" + "m:1".repeat(25) + "m", 80);
    }

    /** A FAULT leaves the SNOW or PLAN as it was; a TEXT changed later changes none of them. */
    private static void stays() {
        c.at("SNOWS and PLANS stay");
        SnowHouse x = new SnowHouse();
        Check.snow(x, 0, "g9r8c7w6");
        Check.plan(x, 0, "m:7r5:1s3:2");
        c.due("snow with a FAULT", Check.snow(x, 0, "g1r1c1w1x"), STATE);
        c.due("plan with a FAULT", Check.plan(x, 0, "m:1r1:0r13:0"), STATE);
        for (int what = 0; what < 4; what++) c.due(x, "about " + what, x.about(0, what), 1, 9 - what);
        int[] facts = {2, 7, 8, 2};
        for (int what = 0; what < 4; what++) c.due(x, "tells " + what, x.tells(0, what), 1, facts[what]);
        c.due(x, "course(0, 1)", x.course(0, 1), 2, 32);
        c.due("plan anew, fewer COURSES", Check.plan(x, 0, "s1:9"), 1);
        c.due(x, "course(0, 0)", x.course(0, 0), 2, 19);
        c.due("course(0, 1)", x.course(0, 1), -3);
        c.due(x, "tells(0, 1), anew", x.tells(0, 1), 1, 2);
        c.due("snow anew", Check.snow(x, 0, "r1"), 1);
        int[] worths = {12, 1, 20, 3};
        for (int what = 0; what < 4; what++) c.due(x, "about " + what + ", anew", x.about(0, what), 1, worths[what]);
        for (int k = 1; k < 4; k++) c.due("about " + k, x.about(k, 0), -3);
        for (int k = 1; k < 4; k++) c.due("tells " + k, x.tells(k, 0), -3);
    }

    /** All TEXTS of up to 4 of these signs, against Naive. */
    private static void allShortTexts() {
        c.at("all short TEXTS");
        String signs = "grswcm: 0139";
        for (int size = 0; size <= 4; size++) {
            int ways = (int) Math.pow(signs.length(), size);
            for (int way = 0; way < ways; way++) {
                StringBuilder text = new StringBuilder();
                for (int i = 0, rest = way; i < size; i++, rest /= signs.length()) {
                    text.append(signs.charAt(rest % signs.length()));
                }
                SnowHouse x = new SnowHouse();
                Naive y = new Naive();
                Check.write(x, 0, text.toString());
                y.text(0, size);
                for (int i = 0; i < size; i++) y.put(0, i, text.charAt(i));
                c.due("fault of SNOW '" + text + "'", x.fault(0, false), y.fault(0, false));
                c.due("fault of PLAN '" + text + "'", x.fault(0, true), y.fault(0, true));
            }
        }
    }

    public static void main(String[] args) {
        rows();
        copies();
        means();
        texts();
        snowNumbers();
        snowItems();
        snowSigns();
        planNumbers();
        planSigns();
        planSizes();
        stays();
        allShortTexts();
        c.end("TextEdgesTest");
    }
}
