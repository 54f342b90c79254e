/** For each promise: ordinary inputs, the edges that the document names, and wrong inputs. */
public final class PromisesTest {
    private static final Class<IllegalStateException> STATE = IllegalStateException.class;
    private static final Class<IllegalArgumentException> ARGUMENT = IllegalArgumentException.class;
    private static final Class<IndexOutOfBoundsException> INDEX = IndexOutOfBoundsException.class;
    private static final Class<UnsupportedOperationException> UNSUPPORTED = UnsupportedOperationException.class;

    private static final int MOST = Integer.MAX_VALUE;
    private static final int LEAST = Integer.MIN_VALUE;

    private final Checks checks = new Checks("PromisesTest");

    public static void main(String[] args) {
        PromisesTest test = new PromisesTest();
        test.newObject();
        test.glue();
        test.tile();
        test.tileSides();
        test.temperature();
        test.seed();
        test.seedAfterAttaching();
        test.clear();
        test.reset();
        test.attach();
        test.attachAtEdges();
        test.grow();
        test.drawn();
        test.drawnFromTheFrontier();
        test.drop();
        test.frontier();
        test.front();
        test.at();
        test.atWhatStays();
        test.count();
        test.breachOne();
        test.breachTwo();
        test.breachThree();
        test.finals();
        test.finalsOfSeeds();
        test.finalsAreFieldsOfTypes();
        test.finalsAtMost500Fields();
        test.seam();
        test.seamOfManyTiles();
        test.counter();
        test.counterCounts();
        test.rule();
        test.ruleRuns();
        test.oneObjectDoesNotTouchAnother();
        test.checks.finish();
    }

    /** Temperature 1 and one type with glue 5 on all sides. */
    private static TileBench spreading() {
        TileBench b = new TileBench();
        b.temperature(1);
        b.glue(5, 1);
        b.tile(5, 5, 5, 5);
        return b;
    }

    /** Type 1 holds type 2 in its north by 2. */
    private static TileBench pair() {
        TileBench b = new TileBench();
        b.glue(1, 2);
        b.tile(1, 0, 0, 0);
        b.tile(0, 0, 1, 0);
        return b;
    }

    private void tileAt(TileBench b, int x, int y, int type, int inputs, int outputs, int seed) {
        checks.due("type at " + x + ", " + y, type, () -> b.at(x, y, 0));
        checks.due("inputs at " + x + ", " + y, inputs, () -> b.at(x, y, 1));
        checks.due("outputs at " + x + ", " + y, outputs, () -> b.at(x, y, 2));
        checks.due("seed at " + x + ", " + y, seed, () -> b.at(x, y, 3));
    }

    private void emptyAt(TileBench b, int x, int y) {
        tileAt(b, x, y, 0, -1, -1, -1);
    }

    private void frontIs(TileBench b, int i, int x, int y, int type) {
        checks.due("x of pair " + i, x, () -> b.front(i, 0));
        checks.due("y of pair " + i, y, () -> b.front(i, 1));
        checks.due("type of pair " + i, type, () -> b.front(i, 2));
    }

    private void breachIs(TileBench b, int number, int x, int y, int type) {
        checks.due("number of the breach", number, () -> b.breach(0));
        checks.due("x of the breach", x, () -> b.breach(1));
        checks.due("y of the breach", y, () -> b.breach(2));
        checks.due("type of the breach", type, () -> b.breach(3));
    }

    private void noBreach(TileBench b) {
        breachIs(b, 0, -1, -1, -1);
    }

    private void newObject() {
        TileBench b = new TileBench();
        checks.due("NONE", -1, () -> TileBench.NONE);
        checks.due("count(0)", 0, () -> b.count(0));
        checks.throwing("count(1)", ARGUMENT, () -> b.count(1));
        checks.due("frontier()", 0, () -> b.frontier());
        emptyAt(b, 0, 0);
        emptyAt(b, 39, 39);
        noBreach(b);
        checks.due("clear()", 0, () -> b.clear());
        for (int g = 1; g <= 99; g++) {
            int glue = g;
            checks.due("a new glue's strength", 0, () -> b.glue(glue, 0));
        }
        checks.due("temperature(2)", 2, () -> b.temperature(2));
        checks.due("tile", 1, () -> b.tile(0, 0, 0, 0));
    }

    private void glue() {
        TileBench b = pair();
        checks.due("glue(1, 0)", 2, () -> b.glue(1, 0));
        checks.due("glue(1, 1)", 0, () -> b.glue(1, 1));
        checks.due("glue(99, 2)", 0, () -> b.glue(99, 2));
        for (int g : new int[] {0, -1, 100, LEAST, MOST}) {
            checks.throwing("glue of no number", ARGUMENT, () -> b.glue(g, 1));
        }
        for (int s : new int[] {-1, 3, LEAST, MOST}) {
            checks.throwing("glue of no strength", ARGUMENT, () -> b.glue(1, s));
        }
        checks.due("glue(1, 1) after throws", 1, () -> b.glue(1, 1));
        checks.due("glue(99, 2) after throws", 2, () -> b.glue(99, 2));
        b.seed(3, 3, 1);
        checks.due("strength 1 is too weak", 0, () -> b.frontier());
        checks.throwing("glue on a field with tiles", STATE, () -> b.glue(1, 2));
        checks.throwing("glue(0, 9) on a field with tiles", STATE, () -> b.glue(0, 9));
        checks.due("frontier()", 0, () -> b.frontier());
        b.drop(3, 3);
        checks.due("glue(1, 2)", 1, () -> b.glue(1, 2));
        b.seed(3, 3, 1);
        checks.due("strength 2 is strong enough", 1, () -> b.frontier());
    }

    private void tile() {
        TileBench b = new TileBench();
        checks.due("tile(0, 0, 0, 0)", 1, () -> b.tile(0, 0, 0, 0));
        checks.due("tile(99, 99, 99, 99)", 2, () -> b.tile(99, 99, 99, 99));
        for (int bad : new int[] {-1, 100, LEAST, MOST}) {
            checks.throwing("north", ARGUMENT, () -> b.tile(bad, 0, 0, 0));
            checks.throwing("east", ARGUMENT, () -> b.tile(0, bad, 0, 0));
            checks.throwing("south", ARGUMENT, () -> b.tile(0, 0, bad, 0));
            checks.throwing("west", ARGUMENT, () -> b.tile(0, 0, 0, bad));
        }
        checks.due("equal tiles are types of their own", 3, () -> b.tile(99, 99, 99, 99));
        b.seed(0, 0, 3);
        checks.throwing("tile on a field with tiles", STATE, () -> b.tile(1, 1, 1, 1));
        checks.throwing("a wrong tile on a field with tiles", STATE, () -> b.tile(-1, 1, 1, 1));
        b.clear();
        checks.throwing("count(4)", ARGUMENT, () -> b.count(4));
        for (int t = 4; t <= 60; t++) {
            checks.due("a type more", t, () -> b.tile(1, 2, 3, 4));
        }
        checks.throwing("type 61", UNSUPPORTED, () -> b.tile(1, 2, 3, 4));
        checks.throwing("a wrong type 61", ARGUMENT, () -> b.tile(1, 2, 3, 100));
        checks.due("count(60)", 0, () -> b.count(60));
        checks.throwing("count(61)", ARGUMENT, () -> b.count(61));
        b.seed(0, 0, 60);
        checks.throwing("type 61 on a field with tiles", STATE, () -> b.tile(1, 2, 3, 4));
    }

    /** North is y + 1, east x + 1, and tiles are not turned. */
    private void tileSides() {
        int[] dx = {0, 1, 0, -1};
        int[] dy = {1, 0, -1, 0};
        for (int side = 0; side < 4; side++) {
            TileBench b = new TileBench();
            b.glue(7, 2);
            b.tile(side == 0 ? 7 : 0, side == 1 ? 7 : 0, side == 2 ? 7 : 0, side == 3 ? 7 : 0);
            b.tile(7, 0, 0, 0);
            b.tile(0, 7, 0, 0);
            b.tile(0, 0, 7, 0);
            b.tile(0, 0, 0, 7);
            b.seed(20, 20, 1);
            checks.due("one place at one side", 1, () -> b.frontier());
            int opposite = (side + 2) % 4;
            frontIs(b, 0, 20 + dx[side], 20 + dy[side], 2 + opposite);
            b.grow(1);
            tileAt(b, 20, 20, 1, 0, 1 << side, 1);
            tileAt(b, 20 + dx[side], 20 + dy[side], 2 + opposite, 1 << opposite, 0, 0);
        }
        TileBench b = new TileBench();
        b.temperature(1);
        b.tile(0, 0, 0, 0);
        b.tile(3, 3, 3, 3);
        b.seed(5, 5, 1);
        b.seed(9, 9, 2);
        checks.due("neither glue 0 nor one without strength holds", 0, () -> b.frontier());
    }

    private void temperature() {
        TileBench b = new TileBench();
        checks.due("temperature(3)", 2, () -> b.temperature(3));
        checks.due("temperature(1)", 3, () -> b.temperature(1));
        for (int k : new int[] {0, 4, -1, LEAST, MOST}) {
            checks.throwing("no temperature", ARGUMENT, () -> b.temperature(k));
        }
        checks.due("temperature(1)", 1, () -> b.temperature(1));
        for (int k = 1; k <= 3; k++) {
            TileBench warm = new TileBench();
            warm.temperature(k);
            warm.glue(1, 1);
            warm.glue(2, 2);
            warm.tile(1, 2, 0, 0);
            warm.tile(2, 0, 1, 0);
            warm.tile(0, 0, 1, 2);
            warm.seed(10, 10, 1);
            checks.due("pairs of one seed", k == 1 ? 3 : k == 2 ? 1 : 0, () -> warm.frontier());
            warm.seed(9, 11, 1);
            int one = k <= 1 ? 1 : 0;
            int two = k <= 2 ? 1 : 0;
            checks.due("held by 1", one, () -> warm.attach(9, 12, 3) ? 1 : 0);
            checks.due("held by 2", two, () -> warm.attach(11, 10, 3) ? 1 : 0);
            checks.due("held by 3", 1, () -> warm.attach(10, 11, 3) ? 1 : 0);
            checks.throwing("temperature on a field with tiles", STATE, () -> warm.temperature(1));
            checks.throwing("no temperature on a field with tiles", STATE, () -> warm.temperature(0));
            warm.clear();
            checks.due("temperature after clear()", k, () -> warm.temperature(2));
        }
    }

    private void seed() {
        TileBench b = pair();
        for (int bad : new int[] {-1, 40, LEAST, MOST}) {
            checks.throwing("x is no place", INDEX, () -> b.seed(bad, 0, 1));
            checks.throwing("y is no place", INDEX, () -> b.seed(0, bad, 1));
            checks.throwing("no place before no type", INDEX, () -> b.seed(0, bad, 9));
        }
        for (int bad : new int[] {0, 3, -1, LEAST, MOST}) {
            checks.throwing("no type", ARGUMENT, () -> b.seed(0, 0, bad));
        }
        checks.due("nothing is there", 0, () -> b.count(0));
        checks.done("seed(0, 0, 1)", () -> b.seed(0, 0, 1));
        checks.done("seed(39, 39, 2)", () -> b.seed(39, 39, 2));
        checks.done("seed(39, 0, 2)", () -> b.seed(39, 0, 2));
        checks.done("seed(0, 39, 1)", () -> b.seed(0, 39, 1));
        checks.throwing("a tile is there", STATE, () -> b.seed(0, 0, 2));
        checks.throwing("no type before a tile is there", ARGUMENT, () -> b.seed(0, 0, 3));
        tileAt(b, 0, 0, 1, 0, 0, 1);
        checks.done("a seed that a seed holds", () -> b.seed(0, 1, 2));
        tileAt(b, 0, 1, 2, 0, 0, 1);
        tileAt(b, 0, 0, 1, 0, 0, 1);
        checks.due("count(0)", 5, () -> b.count(0));
        checks.due("drop(0, 1)", 2, () -> b.drop(0, 1));
        checks.done("a seed where one was dropped", () -> b.seed(0, 1, 1));
    }

    private void seedAfterAttaching() {
        TileBench b = pair();
        b.seed(5, 5, 1);
        checks.due("attach fails", 0, () -> b.attach(5, 6, 1) ? 1 : 0);
        checks.due("grow(0)", 0, () -> b.grow(0));
        checks.done("nothing has attached", () -> b.seed(7, 7, 1));
        b.attach(5, 6, 2);
        checks.throwing("one has attached", STATE, () -> b.seed(9, 9, 1));
        checks.throwing("no place before that", INDEX, () -> b.seed(9, 40, 1));
        checks.throwing("no type before that", ARGUMENT, () -> b.seed(9, 9, 3));
        b.drop(5, 6);
        checks.throwing("it was dropped, but the field is not empty", STATE, () -> b.seed(9, 9, 1));
        b.drop(5, 5);
        checks.throwing("one seed is there still", STATE, () -> b.seed(9, 9, 1));
        b.drop(7, 7);
        checks.done("the field was empty by drop()", () -> b.seed(9, 9, 1));
        b.grow(1);
        checks.throwing("one has attached by grow()", STATE, () -> b.seed(5, 5, 1));
        b.clear();
        checks.done("the field was empty by clear()", () -> b.seed(9, 9, 1));
        b.drawn(1, 1);
        checks.throwing("one has attached by drawn()", STATE, () -> b.seed(5, 5, 1));
        b.drop(9, 9);
        checks.throwing("what attached is left alone", STATE, () -> b.seed(5, 5, 1));
        b.reset();
        b.tile(0, 0, 0, 0);
        checks.done("the field was empty by reset()", () -> b.seed(9, 9, 1));
        b.clear();
        b.counter(2, 0, 2);
        checks.done("a seed more for the counter", () -> b.seed(9, 9, 1));
    }

    private void clear() {
        TileBench b = pair();
        checks.due("clear() of an empty field", 0, () -> b.clear());
        b.seed(5, 5, 1);
        b.seed(8, 5, 1);
        b.grow(1);
        checks.due("clear()", 3, () -> b.clear());
        checks.due("clear() again", 0, () -> b.clear());
        checks.due("count(0)", 0, () -> b.count(0));
        checks.due("count(2)", 0, () -> b.count(2));
        checks.due("frontier()", 0, () -> b.frontier());
        emptyAt(b, 5, 5);
        emptyAt(b, 5, 6);
        noBreach(b);
        checks.throwing("finals()", STATE, () -> b.finals(3));
        checks.due("the temperature stays", 2, () -> b.temperature(2));
        checks.due("the glues stay", 2, () -> b.glue(1, 2));
        checks.due("the types stay", 3, () -> b.tile(0, 0, 0, 0));
        b.seed(5, 5, 1);
        checks.due("growth as before", 1, () -> b.grow(9));
        tileAt(b, 5, 6, 2, 4, 0, 0);
    }

    private void reset() {
        TileBench b = pair();
        b.temperature(1);
        b.glue(99, 1);
        b.seed(5, 5, 1);
        b.grow(1);
        checks.done("reset()", () -> b.reset());
        checks.due("count(0)", 0, () -> b.count(0));
        checks.throwing("count(1)", ARGUMENT, () -> b.count(1));
        checks.due("frontier()", 0, () -> b.frontier());
        emptyAt(b, 5, 5);
        emptyAt(b, 5, 6);
        checks.due("the temperature", 2, () -> b.temperature(2));
        checks.due("glue 1", 0, () -> b.glue(1, 2));
        checks.due("glue 99", 0, () -> b.glue(99, 0));
        checks.due("the first type", 1, () -> b.tile(0, 0, 1, 0));
        checks.due("clear()", 0, () -> b.clear());
        b.tile(1, 0, 0, 0);
        b.seed(5, 5, 2);
        checks.due("types of before are forgotten", 1, () -> b.frontier());
        frontIs(b, 0, 5, 6, 1);
    }

    private void attach() {
        TileBench b = new TileBench();
        b.glue(1, 1);
        b.glue(2, 2);
        b.tile(1, 1, 0, 0);
        b.tile(0, 1, 0, 0);
        b.tile(0, 0, 1, 1);
        b.tile(1, 0, 0, 0);
        for (int bad : new int[] {-1, 40, LEAST, MOST}) {
            checks.throwing("x is no place", INDEX, () -> b.attach(bad, 0, 1));
            checks.throwing("y is no place", INDEX, () -> b.attach(0, bad, 1));
            checks.throwing("no place before no type", INDEX, () -> b.attach(bad, 0, 5));
        }
        for (int bad : new int[] {0, 5, -1, LEAST, MOST}) {
            checks.throwing("no type", ARGUMENT, () -> b.attach(0, 0, bad));
        }
        checks.due("on an empty field", 0, () -> b.attach(3, 3, 3) ? 1 : 0);
        b.seed(9, 11, 2);
        checks.due("held by 1 of 2", 0, () -> b.attach(10, 11, 3) ? 1 : 0);
        b.seed(10, 10, 4);
        checks.due("a tile is there", 0, () -> b.attach(10, 10, 3) ? 1 : 0);
        checks.due("another type", 0, () -> b.attach(10, 11, 1) ? 1 : 0);
        checks.throwing("no type at a tile", ARGUMENT, () -> b.attach(10, 10, 5));
        checks.due("held by 1 and 1", 1, () -> b.attach(10, 11, 3) ? 1 : 0);
        tileAt(b, 10, 11, 3, 12, 0, 0);
        tileAt(b, 10, 10, 4, 0, 1, 1);
        tileAt(b, 9, 11, 2, 0, 2, 1);
        checks.due("once only", 0, () -> b.attach(10, 11, 3) ? 1 : 0);
        checks.due("count(3)", 1, () -> b.count(3));
    }

    private void attachAtEdges() {
        TileBench b = spreading();
        b.seed(0, 0, 1);
        checks.due("a corner has two neighbours", 2, () -> b.frontier());
        frontIs(b, 0, 1, 0, 1);
        frontIs(b, 1, 0, 1, 1);
        b.clear();
        b.seed(39, 5, 1);
        checks.due("an edge has three neighbours", 3, () -> b.frontier());
        checks.due("the row above does not begin there", 0, () -> b.attach(0, 6, 1) ? 1 : 0);
        b.clear();
        b.seed(0, 5, 1);
        checks.due("three in the west too", 3, () -> b.frontier());
        checks.due("the row below does not end there", 0, () -> b.attach(39, 4, 1) ? 1 : 0);
        b.clear();
        b.seed(39, 39, 1);
        checks.due("two in the last corner", 2, () -> b.frontier());
        checks.due("attach(39, 38, 1)", 1, () -> b.attach(39, 38, 1) ? 1 : 0);
        checks.due("attach(38, 39, 1)", 1, () -> b.attach(38, 39, 1) ? 1 : 0);
        tileAt(b, 39, 39, 1, 0, 12, 1);
    }

    private void grow() {
        TileBench b = spreading();
        checks.due("grow(5) without tiles", 0, () -> b.grow(5));
        b.seed(20, 20, 1);
        checks.throwing("grow(-1)", ARGUMENT, () -> b.grow(-1));
        checks.throwing("grow(LEAST)", ARGUMENT, () -> b.grow(LEAST));
        checks.due("grow(0)", 0, () -> b.grow(0));
        checks.due("count(0)", 1, () -> b.count(0));
        checks.due("grow(20)", 20, () -> b.grow(20));
        tileAt(b, 20, 19, 1, 1, 4, 0);
        tileAt(b, 20, 0, 1, 1, 0, 0);
        checks.due("grow(2)", 2, () -> b.grow(2));
        tileAt(b, 19, 0, 1, 2, 8, 0);
        tileAt(b, 18, 0, 1, 2, 0, 0);
        checks.due("grow(MOST)", 1600 - 23, () -> b.grow(MOST));
        checks.due("frontier()", 0, () -> b.frontier());
        checks.due("grow(1) on a full field", 0, () -> b.grow(1));
        TileBench c = new TileBench();
        c.glue(1, 2);
        c.tile(0, 1, 0, 0);
        c.tile(0, 0, 0, 2);
        c.tile(0, 0, 0, 1);
        c.tile(0, 0, 0, 1);
        c.seed(4, 4, 1);
        checks.due("grow(9)", 1, () -> c.grow(9));
        checks.due("the least type", 3, () -> c.at(5, 4, 0));
    }

    /** z = 0 goes on to 1013904223, whose upper 24 bits are 3960563: pair 3 of 4. */
    private void drawn() {
        checks.due("drawn without tiles", 0, () -> spreading().drawn(5, 1));
        checks.throwing("drawn(-1, 0)", ARGUMENT, () -> spreading().drawn(-1, 0));
        int[] z = {0, 1, 1000};
        int[] x = {20, 19, 21};
        int[] y = {21, 20, 20};
        for (int i = 0; i < z.length; i++) {
            TileBench b = spreading();
            b.seed(20, 20, 1);
            int begin = z[i];
            int px = x[i];
            int py = y[i];
            checks.due("drawn(0, z)", 0, () -> b.drawn(0, begin));
            checks.throwing("drawn(LEAST, z)", ARGUMENT, () -> b.drawn(LEAST, begin));
            checks.due("count(0)", 1, () -> b.count(0));
            checks.due("drawn(1, z)", 1, () -> b.drawn(1, begin));
            checks.due("drawn from " + begin, 1, () -> b.at(px, py, 0));
        }
        TileBench once = spreading();
        TileBench twice = spreading();
        once.seed(20, 20, 1);
        twice.seed(20, 20, 1);
        int next = 1664525 * 77 + 1013904223;
        checks.due("drawn(2, 77)", 2, () -> once.drawn(2, 77));
        checks.due("drawn(1, 77)", 1, () -> twice.drawn(1, 77));
        checks.due("drawn(1, next)", 1, () -> twice.drawn(1, next));
        for (int place = 0; place < 25; place++) {
            int px = 18 + place % 5;
            int py = 18 + place / 5;
            checks.due("z goes on", twice.at(px, py, 0), () -> once.at(px, py, 0));
        }
        checks.due("drawn(MOST, 5)", 1597, () -> once.drawn(MOST, 5));
        checks.due("count(1)", 1600, () -> once.count(1));
    }

    private void drawnFromTheFrontier() {
        TileBench b = spreading();
        b.seed(20, 20, 1);
        int z = -123456789;
        for (int i = 0; i < 60; i++) {
            int before = z;
            z = 1664525 * z + 1013904223;
            int pair = (z >>> 8) % b.frontier();
            int x = b.front(pair, 0);
            int y = b.front(pair, 1);
            checks.due("drawn(1, z)", 1, () -> b.drawn(1, before));
            checks.due("pair " + pair + " has attached", 1, () -> b.at(x, y, 0));
        }
    }

    private void drop() {
        TileBench b = pair();
        for (int bad : new int[] {-1, 40, LEAST, MOST}) {
            checks.throwing("x is no place", INDEX, () -> b.drop(bad, 0));
            checks.throwing("y is no place", INDEX, () -> b.drop(0, bad));
        }
        checks.due("drop(5, 5) of nothing", 0, () -> b.drop(5, 5));
        b.seed(5, 5, 1);
        b.seed(9, 9, 1);
        b.attach(5, 6, 2);
        checks.due("drop(5, 5)", 1, () -> b.drop(5, 5));
        emptyAt(b, 5, 5);
        tileAt(b, 5, 6, 2, 4, 0, 0);
        checks.due("drop(5, 5) again", 0, () -> b.drop(5, 5));
        checks.due("count(0)", 2, () -> b.count(0));
        checks.due("count(1)", 1, () -> b.count(1));
        checks.due("what is left can hold", 2, () -> b.frontier());
        frontIs(b, 0, 5, 5, 1);
        checks.due("attach(5, 5, 1)", 1, () -> b.attach(5, 5, 1) ? 1 : 0);
        tileAt(b, 5, 5, 1, 1, 1, 0);
        tileAt(b, 5, 6, 2, 4, 4, 0);
        checks.due("drop(5, 6)", 2, () -> b.drop(5, 6));
        tileAt(b, 5, 5, 1, 1, 0, 0);
        checks.due("drop(9, 9)", 1, () -> b.drop(9, 9));
        checks.throwing("no seed is left", STATE, () -> b.finals(5));
    }

    private void frontier() {
        TileBench b = new TileBench();
        checks.due("without types", 0, () -> b.frontier());
        b.temperature(1);
        b.glue(1, 1);
        b.tile(1, 1, 1, 1);
        b.tile(0, 0, 1, 1);
        b.tile(2, 2, 2, 2);
        checks.due("without tiles", 0, () -> b.frontier());
        b.seed(20, 20, 1);
        checks.due("pairs, not places", 6, () -> b.frontier());
        b.attach(20, 21, 2);
        checks.due("a place is taken, and one more is open", 5, () -> b.frontier());
        b.drop(20, 20);
        checks.due("glues turned to the empty place", 2, () -> b.frontier());
        b.drop(20, 21);
        checks.due("empty again", 0, () -> b.frontier());
    }

    private void front() {
        TileBench b = new TileBench();
        checks.throwing("front(0, 0) of nothing", INDEX, () -> b.front(0, 0));
        b.temperature(1);
        b.glue(1, 1);
        b.tile(1, 1, 1, 1);
        b.tile(0, 0, 1, 1);
        b.seed(20, 20, 1);
        frontIs(b, 0, 20, 19, 1);
        frontIs(b, 1, 19, 20, 1);
        frontIs(b, 2, 21, 20, 1);
        frontIs(b, 3, 21, 20, 2);
        frontIs(b, 4, 20, 21, 1);
        frontIs(b, 5, 20, 21, 2);
        for (int bad : new int[] {-1, 6, LEAST, MOST}) {
            checks.throwing("no such pair", INDEX, () -> b.front(bad, 0));
            checks.throwing("no such pair before no such what", INDEX, () -> b.front(bad, 3));
        }
        for (int bad : new int[] {-1, 3, LEAST, MOST}) {
            checks.throwing("no such what", ARGUMENT, () -> b.front(0, bad));
        }
        b.clear();
        b.seed(0, 0, 1);
        b.seed(39, 39, 1);
        frontIs(b, 0, 1, 0, 1);
        frontIs(b, 2, 0, 1, 1);
        frontIs(b, 4, 39, 38, 1);
        frontIs(b, 5, 38, 39, 1);
        checks.throwing("front(6, 0)", INDEX, () -> b.front(6, 0));
    }

    private void at() {
        TileBench b = spreading();
        for (int bad : new int[] {-1, 40, LEAST, MOST}) {
            checks.throwing("x is no place", INDEX, () -> b.at(bad, 0, 0));
            checks.throwing("y is no place", INDEX, () -> b.at(0, bad, 0));
            checks.throwing("no place before no such what", INDEX, () -> b.at(bad, 0, 4));
        }
        for (int bad : new int[] {-1, 4, LEAST, MOST}) {
            checks.throwing("no such what", ARGUMENT, () -> b.at(0, 0, bad));
        }
        emptyAt(b, 20, 20);
        b.seed(20, 20, 1);
        tileAt(b, 20, 20, 1, 0, 0, 1);
        checks.throwing("no such what at a tile", ARGUMENT, () -> b.at(20, 20, 4));
        b.attach(20, 21, 1);
        b.attach(21, 20, 1);
        b.attach(20, 19, 1);
        b.attach(19, 20, 1);
        tileAt(b, 20, 20, 1, 0, 15, 1);
        tileAt(b, 20, 21, 1, 4, 0, 0);
        tileAt(b, 21, 20, 1, 8, 0, 0);
        tileAt(b, 20, 19, 1, 1, 0, 0);
        tileAt(b, 19, 20, 1, 2, 0, 0);
        b.attach(21, 21, 1);
        tileAt(b, 21, 21, 1, 12, 0, 0);
        tileAt(b, 20, 21, 1, 4, 2, 0);
        tileAt(b, 21, 20, 1, 8, 1, 0);
    }

    /** Inputs stay what they were; outputs are told by the neighbours that there are now. */
    private void atWhatStays() {
        TileBench b = spreading();
        b.seed(20, 20, 1);
        b.attach(21, 20, 1);
        b.attach(22, 20, 1);
        b.drop(21, 20);
        tileAt(b, 20, 20, 1, 0, 0, 1);
        tileAt(b, 22, 20, 1, 8, 0, 0);
        b.attach(21, 20, 1);
        tileAt(b, 21, 20, 1, 10, 2, 0);
        tileAt(b, 22, 20, 1, 8, 8, 0);
        tileAt(b, 20, 20, 1, 0, 2, 1);
        b.drop(20, 20);
        b.attach(20, 20, 1);
        tileAt(b, 20, 20, 1, 2, 2, 0);
        tileAt(b, 21, 20, 1, 10, 10, 0);
        TileBench c = new TileBench();
        c.glue(1, 2);
        c.glue(2, 0);
        c.tile(1, 2, 0, 0);
        c.tile(0, 2, 1, 0);
        c.tile(0, 0, 1, 2);
        c.seed(10, 10, 1);
        c.seed(11, 10, 1);
        c.attach(10, 11, 2);
        c.attach(11, 11, 3);
        tileAt(c, 11, 11, 3, 4, 0, 0);
        tileAt(c, 10, 11, 2, 4, 0, 0);
    }

    private void count() {
        TileBench b = pair();
        b.seed(1, 1, 1);
        b.seed(5, 5, 1);
        b.seed(9, 9, 2);
        b.attach(5, 6, 2);
        checks.due("count(0)", 4, () -> b.count(0));
        checks.due("count(1)", 2, () -> b.count(1));
        checks.due("count(2)", 2, () -> b.count(2));
        for (int bad : new int[] {-1, 3, LEAST, MOST}) {
            checks.throwing("no such type", ARGUMENT, () -> b.count(bad));
        }
        b.drop(5, 6);
        checks.due("count(2) after drop()", 1, () -> b.count(2));
        checks.due("count(0) after drop()", 3, () -> b.count(0));
    }

    private void breachOne() {
        TileBench b = new TileBench();
        b.temperature(1);
        b.glue(5, 2);
        b.glue(6, 1);
        b.tile(5, 6, 0, 0);
        b.tile(0, 0, 5, 0);
        b.tile(0, 0, 0, 6);
        b.seed(20, 20, 1);
        for (int bad : new int[] {-1, 4, LEAST, MOST}) {
            checks.throwing("no such what", ARGUMENT, () -> b.breach(bad));
        }
        b.attach(21, 20, 3);
        b.attach(20, 21, 2);
        breachIs(b, 1, 20, 21, 2);
        b.drop(20, 20);
        b.drop(21, 20);
        breachIs(b, 1, 20, 21, 2);
        b.clear();
        b.seed(20, 21, 2);
        b.seed(20, 20, 1);
        b.attach(21, 20, 3);
        noBreach(b);
        exactlyHeldAtEachSide();
        TileBench c = new TileBench();
        c.glue(1, 1);
        c.tile(1, 0, 0, 0);
        c.tile(0, 1, 0, 0);
        c.tile(0, 0, 0, 1);
        c.tile(0, 0, 1, 1);
        c.tile(0, 1, 1, 1);
        c.seed(10, 10, 1);
        c.seed(9, 11, 2);
        c.attach(10, 11, 4);
        breachIs(c, 2, 10, 11, 5);
        c.drop(10, 11);
        c.attach(10, 11, 5);
        breachIs(c, 2, 10, 11, 4);
        c.clear();
        c.seed(10, 10, 1);
        c.seed(9, 11, 2);
        c.seed(11, 11, 3);
        c.attach(10, 11, 5);
        breachIs(c, 1, 10, 11, 5);
    }

    private void exactlyHeldAtEachSide() {
        for (int strength = 1; strength <= 2; strength++) {
            TileBench b = new TileBench();
            b.temperature(strength);
            b.glue(1, strength);
            b.glue(2, strength);
            b.glue(3, strength);
            b.glue(4, strength);
            b.tile(1, 2, 3, 4);
            b.tile(3, 0, 0, 0);
            b.tile(0, 4, 0, 0);
            b.tile(0, 0, 1, 0);
            b.tile(0, 0, 0, 2);
            b.seed(20, 20, 1);
            checks.due("one at each side", 4, () -> b.grow(9));
            noBreach(b);
        }
    }

    private void breachTwo() {
        TileBench b = new TileBench();
        b.temperature(1);
        b.glue(1, 1);
        b.glue(2, 1);
        b.tile(0, 1, 0, 0);
        b.tile(0, 2, 0, 1);
        b.tile(0, 0, 0, 2);
        b.tile(0, 2, 0, 0);
        b.seed(10, 10, 1);
        b.grow(2);
        tileAt(b, 11, 10, 2, 8, 2, 0);
        tileAt(b, 12, 10, 3, 8, 0, 0);
        noBreach(b);
        b.drop(12, 10);
        breachIs(b, 3, 12, 10, 3);
        b.clear();
        b.seed(10, 10, 1);
        b.seed(12, 10, 3);
        b.attach(11, 10, 4);
        breachIs(b, 2, 11, 10, 2);
        TileBench two = new TileBench();
        two.temperature(1);
        two.glue(1, 1);
        two.tile(1, 1, 0, 0);
        two.tile(0, 0, 1, 0);
        two.tile(0, 0, 0, 1);
        two.tile(0, 0, 1, 0);
        two.tile(0, 0, 0, 1);
        two.tile(0, 0, 0, 1);
        two.seed(10, 10, 1);
        two.attach(10, 11, 4);
        breachIs(two, 2, 10, 11, 2);
        two.attach(11, 10, 3);
        breachIs(two, 2, 11, 10, 5);
        two.drop(11, 10);
        two.attach(11, 10, 6);
        breachIs(two, 2, 11, 10, 3);
    }

    private void breachThree() {
        TileBench b = pair();
        noBreach(b);
        b.seed(9, 5, 1);
        b.seed(3, 5, 1);
        b.seed(1, 8, 1);
        breachIs(b, 3, 3, 6, 2);
        b.attach(3, 6, 2);
        breachIs(b, 3, 9, 6, 2);
        b.attach(1, 9, 2);
        b.attach(9, 6, 2);
        noBreach(b);
        b.drop(1, 8);
        breachIs(b, 3, 1, 8, 1);
    }

    private void finals() {
        TileBench b = new TileBench();
        checks.throwing("no seeds", STATE, () -> b.finals(5));
        checks.throwing("no seeds before no limit", STATE, () -> b.finals(0));
        b.temperature(1);
        b.glue(1, 1);
        b.glue(2, 1);
        b.tile(0, 1, 0, 0);
        b.tile(0, 2, 0, 1);
        b.tile(0, 0, 0, 1);
        b.tile(0, 0, 0, 2);
        b.seed(10, 10, 1);
        for (int bad : new int[] {0, 31, -1, LEAST, MOST}) {
            checks.throwing("no limit", ARGUMENT, () -> b.finals(bad));
        }
        checks.due("finals(1)", -1, () -> b.finals(1));
        checks.due("finals(2)", -1, () -> b.finals(2));
        checks.due("finals(3)", 2, () -> b.finals(3));
        checks.due("finals(30)", 2, () -> b.finals(30));
        b.attach(11, 10, 3);
        checks.due("other tiles are not there then", 2, () -> b.finals(3));
        tileAt(b, 11, 10, 3, 8, 0, 0);
        tileAt(b, 10, 10, 1, 0, 2, 1);
        checks.due("count(0)", 2, () -> b.count(0));
        checks.due("frontier()", 0, () -> b.frontier());
        b.drop(10, 10);
        checks.throwing("a dropped seed is none", STATE, () -> b.finals(3));
        b.attach(10, 10, 1);
        checks.throwing("nor what came in its place", STATE, () -> b.finals(3));
        b.clear();
        b.seed(39, 10, 1);
        checks.due("nothing grows beyond the edge", 1, () -> b.finals(1));
        finalsInCorners();
    }

    /** The types that grow are the first ones here, the seed's is the last. */
    private void finalsInCorners() {
        TileBench b = new TileBench();
        b.glue(1, 2);
        b.tile(0, 1, 0, 0);
        b.tile(0, 1, 0, 0);
        b.tile(1, 0, 0, 0);
        b.tile(1, 0, 0, 0);
        b.tile(1, 0, 0, 0);
        b.tile(0, 0, 1, 1);
        b.seed(1, 0, 6);
        checks.due("two types in the first place", 2, () -> b.finals(2));
        b.clear();
        b.seed(0, 1, 6);
        checks.due("three types in the first place", 3, () -> b.finals(2));
        b.clear();
        b.seed(39, 39, 6);
        checks.due("below and beside the last place", 6, () -> b.finals(3));
        checks.due("not whole", -1, () -> b.finals(2));
    }

    private void finalsOfSeeds() {
        TileBench b = pair();
        b.seed(10, 10, 2);
        b.seed(14, 10, 2);
        b.seed(18, 10, 2);
        checks.due("each can get one below it", -1, () -> b.finals(5));
        checks.due("as many as limit", 1, () -> b.finals(6));
        checks.due("limit below the seeds", -1, () -> b.finals(1));
        b.drop(18, 10);
        checks.due("a seed less", 1, () -> b.finals(4));
        b.clear();
        b.seed(10, 10, 2);
        b.seed(10, 9, 1);
        b.seed(10, 8, 2);
        b.seed(10, 7, 1);
        checks.due("more seeds than limit, nothing may attach", 1, () -> b.finals(1));
        checks.due("finals(30)", 1, () -> b.finals(30));
        TileBench c = spreading();
        c.seed(20, 20, 1);
        checks.due("too many fields", -1, () -> c.finals(30));
        checks.due("not final at the limit", -1, () -> c.finals(2));
    }

    /** Two orders of the same growth are one field, though the inputs differ. */
    private void finalsAreFieldsOfTypes() {
        TileBench b = new TileBench();
        b.temperature(1);
        for (int g = 1; g <= 4; g++) {
            b.glue(g, 1);
        }
        b.tile(1, 2, 0, 0);
        b.tile(0, 3, 1, 0);
        b.tile(4, 0, 0, 2);
        b.tile(0, 0, 4, 3);
        b.seed(10, 10, 1);
        checks.due("one square", 1, () -> b.finals(4));
        checks.due("it is not whole yet", -1, () -> b.finals(3));
        TileBench swap = new TileBench();
        swap.temperature(1);
        swap.glue(1, 1);
        swap.tile(1, 0, 0, 0);
        swap.tile(0, 0, 1, 0);
        swap.tile(0, 0, 1, 0);
        swap.seed(10, 10, 1);
        swap.seed(14, 10, 1);
        checks.due("two types at two places", 4, () -> swap.finals(4));
    }

    private void finalsAtMost500Fields() {
        TileBench b = arms(false, 4, 4, 4, 3);
        checks.due("5 * 5 * 5 * 4 fields", 192, () -> b.finals(5));
        checks.due("the same with room", 192, () -> b.finals(30));
        checks.due("not whole", -1, () -> b.finals(4));
        TileBench c = arms(true, 4, 9, 9, 0);
        checks.due("1 + 5 * 10 * 10 fields", -1, () -> c.finals(30));
        TileBench d = arms(true, 4, 9, 8, 0);
        checks.due("1 + 5 * 10 * 9 fields", 4 * 9 * 8, () -> d.finals(5));
    }

    /** A hub with some types that may come north, east, south and west of it; behind is a seed that holds the hub. */
    private static TileBench arms(boolean behind, int north, int east, int south, int west) {
        TileBench b = new TileBench();
        b.temperature(1);
        for (int g = 1; g <= 5; g++) {
            b.glue(g, 1);
        }
        b.tile(1, 2, 3, behind ? 5 : 4);
        b.tile(0, 5, 0, 0);
        for (int i = 0; i < north; i++) {
            b.tile(0, 0, 1, 0);
        }
        for (int i = 0; i < east; i++) {
            b.tile(0, 0, 0, 2);
        }
        for (int i = 0; i < south; i++) {
            b.tile(3, 0, 0, 0);
        }
        for (int i = 0; i < west; i++) {
            b.tile(0, 4, 0, 0);
        }
        b.seed(behind ? 19 : 20, 20, behind ? 2 : 1);
        return b;
    }

    private void seam() {
        TileBench b = new TileBench();
        checks.throwing("no tiles", STATE, () -> b.seam());
        b.glue(1, 1);
        b.glue(2, 2);
        b.tile(2, 1, 2, 1);
        b.tile(1, 2, 1, 2);
        b.tile(0, 0, 0, 0);
        b.seed(10, 10, 1);
        checks.throwing("one tile", STATE, () -> b.seam());
        b.seed(30, 30, 1);
        checks.due("far apart", 0, () -> b.seam());
        b.drop(30, 30);
        b.seed(10, 11, 1);
        checks.due("held by 2", 2, () -> b.seam());
        b.seed(11, 10, 1);
        checks.due("the weakest of a chain", 1, () -> b.seam());
        b.seed(11, 11, 1);
        checks.due("a square of 2, 1, 2, 1", 2, () -> b.seam());
        b.seed(12, 11, 2);
        checks.due("one that nothing holds", 0, () -> b.seam());
        b.drop(12, 11);
        b.seed(12, 10, 3);
        checks.due("without glues", 0, () -> b.seam());
        b.clear();
        b.seed(10, 10, 1);
        b.seed(10, 11, 1);
        b.seed(20, 10, 1);
        b.seed(20, 11, 1);
        checks.due("two pairs that hold each for itself", 0, () -> b.seam());
        TileBench c = new TileBench();
        c.glue(2, 2);
        c.tile(2, 2, 2, 2);
        for (int y = 10; y < 14; y++) {
            for (int x = 10; x < 14; x++) {
                c.seed(x, y, 1);
            }
        }
        checks.due("a square's corner", 4, () -> c.seam());
        for (int y = 10; y < 14; y++) {
            for (int x = 15; x < 19; x++) {
                c.seed(x, y, 1);
            }
        }
        c.seed(14, 12, 1);
        checks.due("a bridge of one", 2, () -> c.seam());
        c.seed(14, 13, 1);
        checks.due("a bridge of two", 4, () -> c.seam());
    }

    private void seamOfManyTiles() {
        TileBench b = spreading();
        b.seed(0, 0, 1);
        b.grow(119);
        checks.due("120 tiles", 2, () -> b.seam());
        b.grow(1);
        checks.throwing("121 tiles", UNSUPPORTED, () -> b.seam());
        b.drop(0, 0);
        checks.due("120 again, one held at one side", 1, () -> b.seam());
        b.drop(0, 3);
        checks.due("three rows without a corner", 2, () -> b.seam());
    }

    private void counter() {
        TileBench b = pair();
        b.temperature(3);
        b.glue(50, 2);
        for (int bad : new int[] {0, 21, -1, LEAST, MOST}) {
            checks.throwing("no bits", ARGUMENT, () -> b.counter(bad, 0, 2));
        }
        for (int bad : new int[] {0, 41, -1, LEAST, MOST}) {
            checks.throwing("no rows", ARGUMENT, () -> b.counter(3, 0, bad));
        }
        for (int bad : new int[] {8, -1, LEAST, MOST}) {
            checks.throwing("no start", ARGUMENT, () -> b.counter(3, bad, 2));
        }
        checks.throwing("no start of 20 bits", ARGUMENT, () -> b.counter(20, 1048576, 2));
        checks.due("the temperature is as it was", 3, () -> b.temperature(3));
        checks.due("the types are as they were", 3, () -> b.tile(0, 0, 0, 0));
        checks.due("counter(3, 6, 4)", 7, () -> b.counter(3, 6, 4));
        checks.due("count(0)", 6, () -> b.count(0));
        tileAt(b, 0, 0, 2, 0, 0, 1);
        tileAt(b, 1, 0, 2, 0, 0, 1);
        tileAt(b, 2, 0, 1, 0, 0, 1);
        emptyAt(b, 3, 0);
        tileAt(b, 3, 1, 3, 0, 0, 1);
        tileAt(b, 3, 3, 3, 0, 0, 1);
        emptyAt(b, 3, 4);
        checks.throwing("there are tiles", STATE, () -> b.counter(3, 6, 4));
        checks.throwing("there are tiles, and no bits", STATE, () -> b.counter(0, 6, 4));
        b.clear();
        onlyTheSetIsThere(b);
        checks.due("counter(1, 1, 1)", 7, () -> b.counter(1, 1, 1));
        checks.due("one seed", 1, () -> b.count(0));
        tileAt(b, 0, 0, 2, 0, 0, 1);
        checks.throwing("the eighth type is gone", ARGUMENT, () -> b.count(8));
        typesAre(b, new int[][] {{1, 0, 0, 0}, {2, 0, 0, 0}, {0, 0, 0, 4},
            {1, 3, 1, 3}, {2, 4, 1, 3}, {2, 3, 2, 3}, {1, 4, 2, 4}});
    }

    /** Of what there was before the set of rows nothing is left; a type more is its eighth. */
    private void onlyTheSetIsThere(TileBench b) {
        for (int g = 1; g <= 5; g++) {
            int glue = g;
            checks.due("glue " + g, g <= 4 ? 1 : 0, () -> b.glue(glue, 1));
        }
        checks.due("glue 50", 0, () -> b.glue(50, 0));
        checks.due("the temperature", 2, () -> b.temperature(2));
        checks.due("a type behind them", 8, () -> b.tile(0, 0, 0, 0));
    }

    /** A set's types by their glues: what may come beside each of them, and beside tiles that have one glue all round. */
    private void typesAre(TileBench b, int[][] glues) {
        b.clear();
        b.temperature(1);
        for (int g = 1; g <= 4; g++) {
            b.tile(g, g, g, g);
        }
        for (int t = 1; t <= 7; t++) {
            int type = t;
            b.seed(20, 20, type);
            int pairs = 0;
            for (int side = 0; side < 4; side++) {
                int glue = glues[t - 1][side];
                pairs += glue == 0 ? 0 : 1;
                for (int[] other : glues) {
                    pairs += glue != 0 && glue == other[(side + 2) % 4] ? 1 : 0;
                }
                int x = side == 1 ? 21 : side == 3 ? 19 : 20;
                int y = side == 0 ? 21 : side == 2 ? 19 : 20;
                if (glue != 0) {
                    checks.due("side " + side + " of type " + t, 1, () -> b.attach(x, y, 7 + glue) ? 1 : 0);
                    b.drop(x, y);
                }
            }
            checks.due("what may come beside type " + t, pairs, () -> b.frontier());
            b.clear();
        }
    }

    /** A tile's type tells its bit below and the carry in: 4 + 2 b + c; its north is the bit above. */
    private void counterCounts() {
        TileBench b = new TileBench();
        b.counter(4, 11, 12);
        checks.due("grow(1000)", 44, () -> b.grow(1000));
        noBreach(b);
        for (int y = 1; y < 12; y++) {
            int below = (11 + y - 1) % 16;
            int carry = 1;
            for (int x = 3; x >= 0; x--) {
                int bit = below >> 3 - x & 1;
                int at = x;
                int row = y;
                checks.due("row " + y + ", x = " + x, 4 + 2 * bit + carry, () -> b.at(at, row, 0));
                carry &= bit;
            }
        }
        checks.due("seam()", 1, () -> b.seam());
        b.clear();
        b.counter(20, 1048575, 40);
        checks.due("seeds", 59, () -> b.count(0));
        checks.due("drawn", 780, () -> b.drawn(5000, -1));
        checks.due("all ones overflow", 7, () -> b.at(0, 1, 0));
        checks.due("then zeros", 4, () -> b.at(0, 2, 0));
        checks.due("then one", 5, () -> b.at(19, 2, 0));
        checks.due("then one is below", 7, () -> b.at(19, 3, 0));
        noBreach(b);
    }

    private void rule() {
        TileBench b = pair();
        b.temperature(3);
        b.glue(50, 2);
        for (int bad : new int[] {0, 31, -1, 32, LEAST, MOST}) {
            checks.throwing("no width", ARGUMENT, () -> b.rule(bad, 1, 2, 0));
        }
        for (int bad : new int[] {-1, 16, LEAST, MOST}) {
            checks.throwing("no rule", ARGUMENT, () -> b.rule(3, bad, 2, 0));
        }
        for (int bad : new int[] {0, 41, -1, LEAST, MOST}) {
            checks.throwing("no rows", ARGUMENT, () -> b.rule(3, 1, bad, 0));
        }
        for (int bad : new int[] {8, -1, LEAST, MOST}) {
            checks.throwing("no first row", ARGUMENT, () -> b.rule(3, 1, 2, bad));
        }
        checks.throwing("no first row of 30 cells", ARGUMENT, () -> b.rule(30, 1, 2, 1 << 30));
        checks.due("the temperature is as it was", 3, () -> b.temperature(3));
        checks.due("the types are as they were", 3, () -> b.tile(0, 0, 0, 0));
        checks.due("rule(3, 6, 3, 1)", 7, () -> b.rule(3, 6, 3, 1));
        checks.due("count(0)", 5, () -> b.count(0));
        emptyAt(b, 0, 0);
        tileAt(b, 1, 0, 2, 0, 0, 1);
        tileAt(b, 2, 0, 1, 0, 0, 1);
        tileAt(b, 3, 0, 1, 0, 0, 1);
        tileAt(b, 0, 1, 3, 0, 0, 1);
        tileAt(b, 0, 2, 3, 0, 0, 1);
        emptyAt(b, 0, 3);
        checks.throwing("there are tiles", STATE, () -> b.rule(3, 6, 3, 1));
        checks.throwing("there are tiles, and no width", STATE, () -> b.rule(0, 6, 3, 1));
        b.clear();
        onlyTheSetIsThere(b);
        checks.due("rule(30, 9, 40, all)", 7, () -> b.rule(30, 9, 40, (1 << 30) - 1));
        checks.due("seeds", 69, () -> b.count(0));
        checks.due("grow", 1170, () -> b.grow(MOST));
        noBreach(b);
        b.clear();
        checks.due("rule(1, 0, 1, 0)", 7, () -> b.rule(1, 0, 1, 0));
        checks.due("one seed", 1, () -> b.count(0));
        tileAt(b, 1, 0, 1, 0, 0, 1);
        b.clear();
        checks.due("rule(2, 13, 1, 3)", 7, () -> b.rule(2, 13, 1, 3));
        typesAre(b, new int[][] {{1, 0, 0, 0}, {2, 0, 0, 0}, {0, 3, 0, 0},
            {2, 3, 1, 3}, {1, 4, 2, 3}, {2, 3, 1, 4}, {2, 4, 2, 4}});
    }

    /** Each row is made of the one below: a cell and its western one, 0 west of the first. */
    private void ruleRuns() {
        for (int r = 0; r < 16; r++) {
            int rule = r;
            TileBench b = new TileBench();
            checks.due("rule(6, r, 7, 45)", 7, () -> b.rule(6, rule, 7, 45));
            checks.due("drawn(99, r)", 36, () -> b.drawn(99, rule));
            int row = 45;
            for (int y = 1; y < 7; y++) {
                int above = 0;
                for (int i = 0; i < 6; i++) {
                    int west = i == 0 ? 0 : row >> i - 1 & 1;
                    int own = row >> i & 1;
                    int x = i + 1;
                    int at = y;
                    checks.due("rule " + r + ", row " + y + ", cell " + i, 4 + 2 * west + own, () -> b.at(x, at, 0));
                    above |= (rule >> 2 * west + own & 1) << i;
                }
                row = above;
            }
            noBreach(b);
        }
    }

    private void oneObjectDoesNotTouchAnother() {
        TileBench a = pair();
        TileBench b = spreading();
        a.seed(5, 5, 1);
        b.seed(5, 5, 1);
        a.grow(9);
        checks.due("a's tiles", 2, () -> a.count(0));
        checks.due("b's tiles", 1, () -> b.count(0));
        checks.due("b's frontier", 4, () -> b.frontier());
        b.reset();
        checks.due("a's tiles after b's reset", 2, () -> a.count(0));
    }
}
