import java.util.function.IntSupplier;
import java.util.function.Supplier;
import java.util.function.ToIntFunction;

/** What the tests share: answers against what is due, and short ways to write TEXTS, SNOWS and PLANS. */
final class Check {
    private int wrong = 0;
    private int checks = 0;
    private String where = "";

    void at(String place) {
        where = place;
    }

    void due(String call, long got, long want) {
        checks++;
        if (got == want) return;
        wrong++;
        System.out.println(where + ": " + call + " answered " + got + ", due is " + want);
    }

    /** A call that tells by asked() beside its answer. */
    void due(SnowHouse x, String call, long got, long want, int asked) {
        due(call, got, want);
        due(call + ", asked()", x.asked(), asked);
    }

    /** A call refused without a FINDING, or NONE: all that can be told stays. */
    void refused(SnowHouse x, String call, IntSupplier made, int want) {
        String before = told(x);
        int[] tallies = tallies(x);
        due(call, made.getAsInt(), want);
        same(call, before, told(x));
        sameTallies(x, call, tallies);
    }

    /** A call refused by a FINDING: that one is told, all else stays. */
    void finds(SnowHouse x, String call, IntSupplier made, int finding) {
        String before = told(x);
        int[] tallies = tallies(x);
        due(call, made.getAsInt(), SnowHouse.FINDING);
        same(call, before, told(x));
        tallies[0] = finding;
        tallies[finding]++;
        sameTallies(x, call, tallies);
    }

    /** As above, on an object made for this call alone: what no call tells now is the same as without it, too. */
    void refused(Supplier<SnowHouse> maker, String call, ToIntFunction<SnowHouse> made, int want) {
        SnowHouse x = maker.get();
        refused(x, call, () -> made.applyAsInt(x), want);
        same(call, probed(maker.get()), probed(x));
    }

    void finds(Supplier<SnowHouse> maker, String call, ToIntFunction<SnowHouse> made, int finding) {
        SnowHouse x = maker.get();
        finds(x, call, () -> made.applyAsInt(x), finding);
        same(call, probed(maker.get()), probed(x));
    }

    /** A call on an object made for it alone that is neither refused nor NONE. */
    void taken(Supplier<SnowHouse> maker, String call, ToIntFunction<SnowHouse> made) {
        SnowHouse x = maker.get();
        int[] tallies = tallies(x);
        int answer = made.applyAsInt(x);
        checks++;
        if (answer < 0) {
            wrong++;
            System.out.println(where + ": " + call + " answered " + answer + ", but it is to be taken");
        }
        sameTallies(x, call, tallies);
    }

    private void same(String call, String before, String after) {
        checks++;
        if (before.equals(after)) return;
        wrong++;
        System.out.println(where + ": " + call + " changed " + before + " to " + after);
    }

    private void sameTallies(SnowHouse x, String call, int[] want) {
        int[] got = tallies(x);
        due(call + ", finding()", got[0], want[0]);
        for (int f = 1; f <= 5; f++) due(call + ", findings(" + f + ")", got[f], want[f]);
    }

    /** What a refused call must not change. */
    private static String told(SnowHouse x) {
        return x.digest() + " " + x.asked() + " " + x.upper() + " " + x.lower();
    }

    /** What comes of the HOUSE and of the kept ones, which digest() tells in part alone; it changes the object. */
    private static String probed(SnowHouse x) {
        StringBuilder all = new StringBuilder();
        for (int k = -1; k < 3; k++) {
            if (k >= 0) all.append(" on ").append(x.on(k));
            all.append(' ').append(x.pull(0)).append(' ').append(x.asked()).append(' ').append(x.odds());
            all.append(' ').append(x.upper()).append(' ').append(x.pace(1)).append(' ').append(x.spiral());
            all.append(' ').append(x.falls()).append(' ').append(x.asked()).append(' ').append(x.go(1));
            all.append(' ').append(x.door(0)).append(' ').append(x.digest());
        }
        return all.toString();
    }

    /** finding(), then findings(1) to findings(5). */
    private static int[] tallies(SnowHouse x) {
        int[] all = new int[6];
        all[0] = x.finding();
        for (int f = 1; f <= 5; f++) all[f] = x.findings(f);
        return all;
    }

    void end(String name) {
        System.out.println(name + ": " + checks + " checks, " + wrong + " wrong");
        if (wrong > 0 || checks == 0) System.exit(1);
    }

    static void write(SnowHouse x, int t, String signs) {
        x.text(t, signs.length());
        for (int i = 0; i < signs.length(); i++) x.put(t, i, signs.charAt(i));
    }

    static int fault(SnowHouse x, String signs, boolean plan) {
        write(x, 0, signs);
        return x.fault(0, plan);
    }

    static int snow(SnowHouse x, int k, String signs) {
        write(x, 0, signs);
        return x.snow(k, 0);
    }

    static int plan(SnowHouse x, int k, String signs) {
        write(x, 0, signs);
        return x.plan(k, 0);
    }

    static void fill(SnowHouse x, int r, int... values) {
        x.row(r, values.length);
        for (int i = 0; i < values.length; i++) x.lay(r, i, values[i]);
    }

    /** A new object with SNOW 0, PLAN 0 and a HOUSE begun by them. */
    static SnowHouse begun(String snow, String plan, int builders) {
        SnowHouse x = new SnowHouse();
        snow(x, 0, snow);
        plan(x, 0, plan);
        x.house(0, 0, builders);
        return x;
    }

    static SnowHouse built(String snow, String plan, int builders) {
        SnowHouse x = begun(snow, plan, builders);
        x.tells(0, 2);
        x.go(x.asked());
        return x;
    }
}
