import java.util.function.IntSupplier;

/** What the tests share: answers against what is due, and short ways to write TEXTS, SNOWS and PLANS. */
final class Check {
    private int wrong = 0;
    private int checks = 0;
    private String where = "";

    void at(String place) {
        where = place;
    }

    void due(String call, long got, long want) {
        checks++;
        if (got == want) return;
        wrong++;
        System.out.println(where + ": " + call + " answered " + got + ", due is " + want);
    }

    /** A call that tells by asked() beside its answer. */
    void due(SnowHouse x, String call, long got, long want, int asked) {
        due(call, got, want);
        due(call + ", asked()", x.asked(), asked);
    }

    /** A call refused without a FINDING, or NONE: all that can be told stays. */
    void refused(SnowHouse x, String call, IntSupplier made, int want) {
        String before = told(x);
        int[] tallies = tallies(x);
        due(call, made.getAsInt(), want);
        same(call, before, told(x));
        for (int f = 0; f <= 5; f++) due(call + ", findings(" + f + ")", tallies(x)[f], tallies[f]);
    }

    /** A call refused by a FINDING: that one is told, all else stays. */
    void finds(SnowHouse x, String call, IntSupplier made, int finding) {
        String before = told(x);
        int[] tallies = tallies(x);
        due(call, made.getAsInt(), SnowHouse.FINDING);
        same(call, before, told(x));
        tallies[0] = finding;
        tallies[finding]++;
        for (int f = 0; f <= 5; f++) due(call + ", findings(" + f + ")", tallies(x)[f], tallies[f]);
    }

    private void same(String call, String before, String after) {
        checks++;
        if (before.equals(after)) return;
        wrong++;
        System.out.println(where + ": " + call + " changed " + before + " to " + after);
    }

    /** What a refused call must not change. */
    private static String told(SnowHouse x) {
        return x.digest() + " " + x.asked() + " " + x.upper() + " " + x.lower();
    }

    /** finding(), then findings(1) to findings(5). */
    private static int[] tallies(SnowHouse x) {
        int[] all = new int[6];
        all[0] = x.finding();
        for (int f = 1; f <= 5; f++) all[f] = x.findings(f);
        return all;
    }

    void end(String name) {
        System.out.println(name + ": " + checks + " checks, " + wrong + " wrong");
        if (wrong > 0 || checks == 0) System.exit(1);
    }

    static void write(SnowHouse x, int t, String signs) {
        x.text(t, signs.length());
        for (int i = 0; i < signs.length(); i++) x.put(t, i, signs.charAt(i));
    }

    static int fault(SnowHouse x, String signs, boolean plan) {
        write(x, 0, signs);
        return x.fault(0, plan);
    }

    static int snow(SnowHouse x, int k, String signs) {
        write(x, 0, signs);
        return x.snow(k, 0);
    }

    static int plan(SnowHouse x, int k, String signs) {
        write(x, 0, signs);
        return x.plan(k, 0);
    }

    /** A new object with SNOW 0, PLAN 0 and a HOUSE begun by them. */
    static SnowHouse begun(String snow, String plan, int builders) {
        SnowHouse x = new SnowHouse();
        snow(x, 0, snow);
        plan(x, 0, plan);
        x.house(0, 0, builders);
        return x;
    }

    static SnowHouse built(String snow, String plan, int builders) {
        SnowHouse x = begun(snow, plan, builders);
        x.tells(0, 2);
        x.go(x.asked());
        return x;
    }
}
