import java.util.ArrayList;
import java.util.Arrays;
import java.util.List;
import java.util.Random;
import java.util.function.ToLongFunction;

/** Runs of calls, drawn by fixed seeds, on SnowHouse and on Naive: every answer must be the same. */
final class RandomTest {
    private static final int RUNS = 400;
    private static final int STEPS = 60;
    private static final int FRAGILE = 10;

    /** A call on both, and from where to where each of its numbers mostly goes. */
    private record Call(String name, ToLongFunction<int[]> real, ToLongFunction<int[]> naive, int[] ranges) { }

    private final Check check;
    private final Random random;
    private final SnowHouse x = new SnowHouse();
    private final Naive y = new Naive();
    private final List<Call> calls = new ArrayList<>();

    private RandomTest(int seed, Check check) {
        this.check = check;
        random = new Random(seed);
        check.at("seed " + seed);
        addRowCalls();
        addHouseCalls();
        addStandCalls();
        addIndoorCalls();
    }

    private void add(String name, ToLongFunction<int[]> real, ToLongFunction<int[]> naive, int... ranges) {
        calls.add(new Call(name, real, naive, ranges));
    }

    private void addRowCalls() {
        add("row", g -> x.row(g[0], g[1]), g -> y.row(g[0], g[1]), 0, 5, 0, 60);
        add("lay", g -> x.lay(g[0], g[1], g[2]), g -> y.lay(g[0], g[1], g[2]), 0, 5, 0, 30, -99, 99);
        add("at", g -> x.at(g[0], g[1]), g -> y.at(g[0], g[1]), 0, 5, 0, 30);
        add("tear", g -> x.tear(g[0]), g -> y.tear(g[0]), 0, 5);
        add("copy", g -> x.copy(g[0], g[1], g[2], g[3], g[4]), g -> y.copy(g[0], g[1], g[2], g[3], g[4]),
                0, 5, 0, 15, 0, 5, 0, 15, 0, 10);
        add("mean", g -> x.mean(g[0]), g -> y.mean(g[0]), 0, 5);
        add("text", g -> x.text(g[0], g[1]), g -> y.text(g[0], g[1]), 0, 3, 0, 80);
        add("put", g -> x.put(g[0], g[1], g[2]), g -> y.put(g[0], g[1], g[2]), 0, 3, 0, 80, -200, 200);
        add("fault", g -> x.fault(g[0], g[1] > 0), g -> y.fault(g[0], g[1] > 0), 0, 3, 0, 1);
        add("snow", g -> x.snow(g[0], g[1]), g -> y.snow(g[0], g[1]), 0, 3, 0, 3);
        add("plan", g -> x.plan(g[0], g[1]), g -> y.plan(g[0], g[1]), 0, 3, 0, 3);
        add("about", g -> x.about(g[0], g[1]), g -> y.about(g[0], g[1]), 0, 3, 0, 3);
        add("tells", g -> x.tells(g[0], g[1]), g -> y.tells(g[0], g[1]), 0, 3, 0, 3);
        add("course", g -> x.course(g[0], g[1]), g -> y.course(g[0], g[1]), 0, 3, 0, 7);
    }

    private void addHouseCalls() {
        for (int often = 0; often < 3; often++) {
            add("house", g -> x.house(g[0], g[1], g[2]), g -> y.house(g[0], g[1], g[2]), 0, 3, 0, 3, 1, 2);
            add("go", g -> x.go(g[0]), g -> y.go(g[0]), 0, 30);
            add("block", g -> x.block(g[0], g[1]), g -> y.block(g[0], g[1]), 0, 40, 0, 4);
            add("pull", g -> x.pull(g[0]), g -> y.pull(g[0]), 0, 40);
            add("mark", g -> x.mark(g[0], g[1]), g -> y.mark(g[0], g[1]), 0, 40, 1, 6);
            add("door", g -> x.door(g[0]), g -> y.door(g[0]), 0, 11);
        }
        add("keep", g -> x.keep(g[0]), g -> y.keep(g[0]), 0, 2);
        add("on", g -> x.on(g[0]), g -> y.on(g[0]), 0, 2);
        add("slumped", g -> x.slumped(), g -> y.slumped());
    }

    private void addStandCalls() {
        add("falls", g -> x.falls(), g -> y.falls());
        add("pace", g -> x.pace(g[0]), g -> y.pace(g[0]), 1, 9);
        add("lean", g -> x.lean(g[0]), g -> y.lean(g[0]), 0, 7);
        add("slow", g -> x.slow(), g -> y.slow());
        add("fell", g -> x.fell(g[0]), g -> y.fell(g[0]), 0, 5);
        add("odds", g -> x.odds(), g -> y.odds());
        add("storm", g -> x.storm(g[0], g[1], g[2], g[3]), g -> y.storm(g[0], g[1], g[2], g[3]),
                0, 3, 1, 2, 0, 200, 0, 6);
        add("halls", g -> x.halls(g[0], g[1], g[2]), g -> y.halls(g[0], g[1], g[2]), 0, 3, 1, 40, 0, 5);
        add("quarry", g -> x.quarry(g[0]), g -> y.quarry(g[0]), 0, 3);
    }

    private void addIndoorCalls() {
        add("air", g -> x.air(g[0], g[1], g[2], g[3], g[4], g[5]), g -> y.air(g[0], g[1], g[2], g[3], g[4], g[5]),
                0, 3, 0, 9, 0, 9, 0, 9, 0, 1, 0, 48);
        add("layer", g -> x.layer(g[0], g[1], g[2], g[3], g[4], g[5]),
                g -> y.layer(g[0], g[1], g[2], g[3], g[4], g[5]), 0, 3, 0, 9, 0, 9, 0, 9, 0, 48, 0, 5);
        add("hole", g -> x.hole(g[0], g[1], g[2]), g -> y.hole(g[0], g[1], g[2]), 0, 3, 0, 9, 0, 9);
        add("drips", g -> x.drips(g[0], g[1], g[2]), g -> y.drips(g[0], g[1], g[2]), 0, 3, 0, 9, 0, 9);
        add("lasts", g -> x.lasts(g[0], g[1], g[2]), g -> y.lasts(g[0], g[1], g[2]), 0, 9, 0, 9, 0, 9);
        add("scrape", g -> x.scrape(g[0], g[1]), g -> y.scrape(g[0], g[1]), 0, 9, 0, 9);
        add("count", g -> x.count(g[0]), g -> y.count(g[0]), 0, 7);
        add("findings", g -> x.findings(g[0]), g -> y.findings(g[0]), 1, 5);
    }

    /** Mostly from least to most, now and then just out of it, or anything. */
    private int draw(int least, int most) {
        int how = random.nextInt(60);
        if (how == 0) return least - 1;
        if (how == 1) return most + 1;
        if (how == 2) return random.nextInt();
        return least + random.nextInt(most - least + 1);
    }

    private void make(Call call) {
        int[] given = new int[call.ranges().length / 2];
        for (int i = 0; i < given.length; i++) given[i] = draw(call.ranges()[2 * i], call.ranges()[2 * i + 1]);
        String name = call.name() + Arrays.toString(given);
        check.due(name, call.real().applyAsLong(given), call.naive().applyAsLong(given));
        compareTold(name);
    }

    private void compareTold(String name) {
        check.due(name + ", asked()", x.asked(), y.asked);
        check.due(name + ", upper()", x.upper(), y.upper);
        check.due(name + ", lower()", x.lower(), y.lower);
        check.due(name + ", finding()", x.finding(), y.finding);
        for (int f = 1; f <= 5; f++) check.due(name + ", findings()", x.findings(f), y.findings[f]);
        check.due(name + ", digest()", x.digest(), y.digest());
    }

    /** A SNOW and a PLAN that just STAND, or nearly: what a SLUMPED BLOCK does to others shows best there. */
    private void writeFragile() {
        int t = random.nextInt(4);
        int k = random.nextInt(4);
        int rub = random.nextInt(6);
        write(t, "w2r" + rub + "c" + random.nextInt(4) + "g" + (1 + random.nextInt(6)));
        check.due("snow", x.snow(k, t), y.snow(k, t));
        StringBuilder text = new StringBuilder("m:1");
        int n = 1 + random.nextInt(6);
        for (int courses = 2 + random.nextInt(4); courses > 0; courses--) {
            int lean = Math.min(9, Math.max(0, rub + random.nextInt(4) - 2));
            text.append(random.nextBoolean() ? 'r' : 's').append(n).append(':').append(lean);
            n = random.nextBoolean() ? 1 + random.nextInt(12) : 1 + random.nextInt(6);
        }
        write(t, text.toString());
        check.due("plan", x.plan(k, t), y.plan(k, t));
        int builders = 1 + random.nextInt(2);
        check.due("house", x.house(k, k, builders), y.house(k, k, builders));
        finish();
        compareTold("a fragile HOUSE");
    }

    private String snowText() {
        StringBuilder text = new StringBuilder();
        int[] most = {30, 9, 40, 9};
        for (int items = random.nextInt(6); items > 0; items--) {
            int what = random.nextInt(4);
            int v = random.nextInt(40) == 0 ? random.nextInt(100) : random.nextInt(most[what] + 1);
            if (v == 0 && random.nextInt(4) > 0) v = 1;
            text.append(" ".repeat(random.nextInt(2))).append("grcw".charAt(what)).append(v);
        }
        return text.append(" ".repeat(random.nextInt(2))).toString();
    }

    private String planText() {
        StringBuilder text = new StringBuilder();
        int steep = 1 + random.nextInt(10);
        int n = 2 + random.nextInt(11);
        for (int courses = 1 + random.nextInt(8); courses > 0; courses--) {
            if (random.nextInt(8) == 0) text.append(' ');
            if (random.nextInt(6) == 0) text.append("m:").append(1 + random.nextInt(9));
            text.append(random.nextBoolean() ? 'r' : 's').append(n).append(':').append(random.nextInt(steep));
            n = random.nextInt(3) == 0 ? 1 + random.nextInt(12) : Math.max(1, n - random.nextInt(3));
        }
        if (random.nextInt(3) == 0) text.append("r1:").append(random.nextInt(10));
        return text.toString();
    }

    private void write(int t, String text) {
        StringBuilder signs = new StringBuilder(text.substring(0, Math.min(80, text.length())));
        if (signs.length() > 0 && random.nextInt(8) == 0) {
            signs.setCharAt(random.nextInt(signs.length()), "grcwsm: 0159z".charAt(random.nextInt(13)));
        }
        if (signs.length() > 0 && random.nextInt(12) == 0) signs.setLength(random.nextInt(signs.length()));
        check.due("text", x.text(t, signs.length()), y.text(t, signs.length()));
        for (int i = 0; i < signs.length(); i++) {
            check.due("put", x.put(t, i, signs.charAt(i)), y.put(t, i, signs.charAt(i)));
        }
        check.due("fault of a SNOW: " + signs, x.fault(t, false), y.fault(t, false));
        check.due("fault of a PLAN: " + signs, x.fault(t, true), y.fault(t, true));
    }

    private void writeSnow() {
        int t = random.nextInt(4);
        int k = random.nextInt(4);
        write(t, snowText());
        check.due("snow", x.snow(k, t), y.snow(k, t));
    }

    private void writePlan() {
        int t = random.nextInt(4);
        int k = random.nextInt(4);
        write(t, planText());
        check.due("plan", x.plan(k, t), y.plan(k, t));
    }

    private void finish() {
        if (y.house == null) return;
        int left = y.house.plan.blocks() - y.house.laid;
        check.due("go " + left, x.go(left), y.go(left));
        if (random.nextBoolean()) {
            int p = random.nextInt(y.house.plan.courses().get(0).n());
            check.due("door " + p, x.door(p), y.door(p));
        }
        lookAtAll();
    }

    private void lookAtAll() {
        for (int b = 0; b < y.house.laid; b++) {
            check.due("pull " + b, x.pull(b), y.pull(b));
            check.due("hold " + b, x.asked(), y.asked);
            for (int kind = 1; kind <= 6; kind++) check.due("mark " + b + " " + kind, x.mark(b, kind), y.mark(b, kind));
        }
    }

    /** Asks which SLIP brought down what a SLIP does bring down, so that not all answers are NONE. */
    private void askSlip() {
        if (y.house == null) return;
        int v = y.house.plan.minutes() > 1 ? y.house.plan.minutes() - 1 : 2;
        int n = y.house.plan.blocks();
        check.due("row", x.row(5, n), y.row(5, n));
        Naive.Plan slower = new Naive.Plan(y.house.plan.courses(), v);
        for (int b : y.house.by(slower).anew().slumped.keySet()) check.due("lay", x.lay(5, b, 1), y.lay(5, b, 1));
        check.due("fell", x.fell(5), y.fell(5));
        compareTold("fell");
    }

    private void askSpiral() {
        check.due("spiral", x.spiral(), y.spiral());
        compareTold("spiral");
    }

    private void run() {
        for (int i = 0; i < 2; i++) writeSnow();
        for (int i = 0; i < 2; i++) writePlan();
        for (int step = 0; step < STEPS; step++) {
            make(calls.get(random.nextInt(calls.size())));
            int more = random.nextInt(40);
            if (more == 0) writeSnow();
            if (more == 1) writePlan();
            if (more == 2) finish();
            if (more == 3) askSlip();
            if (more == 4) writeFragile();
        }
        for (int i = 0; i < FRAGILE; i++) writeFragile();
        askSlip();
        askSpiral();
    }

    public static void main(String[] args) {
        Check check = new Check();
        int runs = args.length > 1 ? Integer.parseInt(args[1]) : RUNS;
        int from = args.length > 2 ? Integer.parseInt(args[2]) : 0;
        for (int seed = from; seed < from + runs; seed++) new RandomTest(seed, check).run();
        check.end("RandomTest");
    }
}
