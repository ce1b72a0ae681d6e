/** The example of README.md, with the answers that are written beside it. */
final class ReadmeTest {
    public static void main(String[] args) {
        Check c = new Check();
        c.at("README.md");
        SnowHouse x = new SnowHouse();
        c.due("text(0, 4)", x.text(0, 4), 4);
        String ring = "r4:1";
        for (int i = 0; i < 4; i++) c.due("put", x.put(0, i, ring.charAt(i)), 1032);
        c.due("plan(0, 0)", x.plan(0, 0), 4);
        c.due("text(1, 0)", x.text(1, 0), 0);
        c.due("snow(0, 1)", x.snow(0, 1), 0);
        c.due("house(0, 0, 1)", x.house(0, 0, 1), 4);
        c.due("go(4)", x.go(4), 4);
        c.due(x, "slumped()", x.slumped(), 0, SnowHouse.NONE);
        c.due("lean(0)", x.lean(0), 3);
        c.due("odds()", x.odds(), 5);
        c.due("upper()", x.upper(), 1);
        c.due("lower()", x.lower(), 1);
        c.due("air(0, 1, 2, 1, 1, 12)", x.air(0, 1, 2, 1, 1, 12), 76);
        c.end("ReadmeTest");
    }
}
