/** The edges of promises 9, 10, 12 and 13: growth, and the frontier that it takes from. */
public final class GrowthEdgesTest {
    private static final int MOST = Integer.MAX_VALUE;
    private static final int LEAST = Integer.MIN_VALUE;

    private final Sentences doc = new Sentences("GrowthEdgesTest");

    public static void main(String[] args) {
        GrowthEdgesTest test = new GrowthEdgesTest();
        test.promise9();
        test.promise10();
        test.promise12();
        test.promise13();
        test.doc.finish();
    }

    private void promise9() {
        doc.says("9: The first of the frontier attaches", this::firstOfTheFrontier);
        doc.says("9: as long as there is one", this::growUntilNoneIsThere);
        doc.says("9: n times at most: how often", this::growAtMost);
        doc.says("9: on an empty field and a full one, 0", this::growOfNothing);
        doc.says("9: IllegalArgumentException: n is below 0", this::growBelowNothing);
    }

    private void promise10() {
        doc.says("10: Likewise, drawn: as long as there is one", this::drawnUntilNoneIsThere);
        doc.says("10: n times at most: how often", this::drawnAtMost);
        doc.says("10: with a number z to begin with, each time anew", this::drawnBeginsAnew);
        doc.says("10: on an empty field and a full one, 0", this::drawnOfNothing);
        doc.says("10: IllegalArgumentException: n is below 0", this::drawnBelowNothing);
    }

    private void promise12() {
        doc.says("12: How many pairs the frontier has: 0 on an empty field and a full one", this::frontierOfNothing);
        doc.says("12: pairs of places and types", this::frontierCountsPairs);
        doc.says("12: all four sides of each tile", this::frontierOfManyTiles);
    }

    private void promise13() {
        doc.says("13: Pair i of the frontier: its x (what = 0), y (1), type (2)", this::frontTells);
        doc.says("13: at the edges of the field", this::frontAtTheEdges);
        doc.says("13: IndexOutOfBoundsException: there is none such", this::frontOfNoPair);
        doc.says("13: IllegalArgumentException: what is none of these", this::frontOfNoSuch);
    }

    /** A row of tiles that grows east from x = 0, of so many types, each of which holds the next one alone. */
    private static TileBench row(int tiles) {
        TileBench b = new TileBench();
        for (int type = 1; type <= tiles; type++) {
            b.glue(type, 2);
            b.tile(0, type == tiles ? 0 : type, 0, type - 1);
        }
        b.seed(0, 0, 1);
        return b;
    }

    private void firstOfTheFrontier() {
        TileBench b = State.made(States::spreading);
        b.seed(1, 1, 1);
        int[][] order = {{1, 0}, {0, 0}, {2, 0}, {3, 0}};
        for (int[] place : order) {
            doc.pair(b, 0, place[0], place[1], 1);
            doc.due(b, 1, "grow", 1);
            doc.due(b, 1, "at", place[0], place[1], 0);
        }
        TileBench types = State.made(States::pair);
        types.tile(0, 0, 1, 0);
        types.seed(20, 20, 1);
        doc.due(types, 1, "grow", 5);
        doc.due(types, 2, "at", 20, 21, 0);
        TileBench last = State.made(States::pair);
        last.seed(39, 38, 1);
        doc.due(last, 1, "grow", 1);
        doc.tile(last, 39, 39, 2, 4, 0, 0);
    }

    private void growUntilNoneIsThere() {
        doc.due(row(40), 39, "grow", MOST);
        doc.due(row(40), 39, "grow", 40);
        doc.due(row(40), 39, "grow", 39);
        doc.due(row(40), 38, "grow", 38);
        doc.due(row(1), 0, "grow", 1);
        TileBench b = State.made(States::spreading);
        b.seed(39, 39, 1);
        doc.due(b, 1599, "grow", 1600);
        doc.due(b, 0, "grow", 1);
        doc.due(b, 1600, "count", 0);
    }

    private void growAtMost() {
        for (int n : new int[] {0, 1, 2, 1598, 1599, 1600, 1764, 1765, MOST}) {
            TileBench b = State.made(States::spreading);
            b.seed(0, 0, 1);
            int done = Math.min(n, 1599);
            doc.due(b, done, "grow", n);
            doc.due(b, 1 + done, "count", 0);
            doc.due(b, 1599 - done, "grow", MOST);
        }
        doc.told(States.SEEDED, 0, "grow", 0);
        doc.told(States.GROWN, 0, "grow", 0);
    }

    private void growOfNothing() {
        for (State state : States.WITHOUT_TILES) {
            doc.told(state, 0, "grow", 0);
            doc.told(state, 0, "grow", 1);
            doc.told(state, 0, "grow", MOST);
        }
        doc.told(States.FULL, 0, "grow", 1);
        doc.told(States.FULL, 0, "grow", MOST);
    }

    private void growBelowNothing() {
        for (State[] states : new State[][] {States.WITHOUT_TILES, States.WITH_TILES}) {
            for (State state : states) {
                doc.refused(state, Calls.ARGUMENT, "grow", -1);
                doc.refused(state, Calls.ARGUMENT, "grow", LEAST);
            }
        }
    }

    private void drawnUntilNoneIsThere() {
        doc.due(row(40), 39, "drawn", MOST, 1);
        doc.due(row(40), 39, "drawn", 40, LEAST);
        doc.due(row(40), 39, "drawn", 39, MOST);
        doc.due(row(40), 38, "drawn", 38, 0);
        doc.due(row(1), 0, "drawn", 1, 0);
        TileBench b = State.made(States::spreading);
        b.seed(39, 39, 1);
        doc.due(b, 1599, "drawn", 1600, -1);
        doc.due(b, 0, "drawn", 1, -1);
        doc.due(b, 1600, "count", 0);
    }

    private void drawnAtMost() {
        for (int n : new int[] {0, 1, 2, 1598, 1599, 1600, 1764, 1765, MOST}) {
            TileBench b = State.made(States::spreading);
            b.seed(0, 0, 1);
            int done = Math.min(n, 1599);
            doc.due(b, done, "drawn", n, n);
            doc.due(b, 1 + done, "count", 0);
            doc.due(b, 1599 - done, "drawn", MOST, n);
        }
        doc.told(States.SEEDED, 0, "drawn", 0, 1);
        doc.told(States.GROWN, 0, "drawn", 0, LEAST);
    }

    /** Of three pairs z = 0 takes the last one and z = 1 the first, whatever was drawn before. */
    private void drawnBeginsAnew() {
        for (int before = 0; before < 3; before++) {
            TileBench b = State.made(States::spreading);
            b.seed(30, 30, 1);
            b.drawn(before, 77);
            b.clear();
            b.seed(0, 20, 1);
            doc.due(b, 1, "drawn", 1, 0);
            doc.due(b, 1, "at", 0, 21, 0);
            b.drop(0, 21);
            doc.due(b, 1, "drawn", 1, 1);
            doc.due(b, 1, "at", 0, 19, 0);
            doc.due(b, 0, "at", 0, 21, 0);
        }
    }

    private void drawnOfNothing() {
        for (State state : States.WITHOUT_TILES) {
            doc.told(state, 0, "drawn", 0, 0);
            doc.told(state, 0, "drawn", 1, MOST);
            doc.told(state, 0, "drawn", MOST, LEAST);
        }
        doc.told(States.FULL, 0, "drawn", 1, 1);
        doc.told(States.FULL, 0, "drawn", MOST, 1);
    }

    private void drawnBelowNothing() {
        for (State[] states : new State[][] {States.WITHOUT_TILES, States.WITH_TILES}) {
            for (State state : states) {
                doc.refused(state, Calls.ARGUMENT, "drawn", -1, 0);
                doc.refused(state, Calls.ARGUMENT, "drawn", LEAST, 1);
            }
        }
    }

    private void frontierOfNothing() {
        for (State state : States.WITHOUT_TILES) {
            doc.told(state, 0, "frontier");
        }
        doc.told(States.FULL, 0, "frontier");
        doc.told(States.CORNER, 0, "frontier");
        TileBench b = States.FULL.make();
        b.drop(0, 0);
        doc.due(b, 1, "frontier");
        b.drop(1, 0);
        doc.due(b, 2, "frontier");
        b.attach(0, 0, 1);
        b.attach(1, 0, 1);
        doc.due(b, 0, "frontier");
    }

    private void frontierCountsPairs() {
        TileBench b = new TileBench();
        b.temperature(1);
        b.glue(1, 1);
        for (int type = 1; type <= 60; type++) {
            b.tile(1, 1, 1, 1);
        }
        int[][] seeds = {{20, 20}, {0, 0}, {39, 0}, {0, 39}, {39, 39}, {0, 20}, {39, 20}, {20, 0}, {20, 39}};
        int[] open = {4, 2, 2, 2, 2, 3, 3, 3, 3};
        int pairs = 0;
        for (int i = 0; i < seeds.length; i++) {
            doc.done(b, "seed", seeds[i][0], seeds[i][1], 60);
            pairs += 60 * open[i];
            doc.due(b, pairs, "frontier");
        }
        b.attach(20, 21, 60);
        doc.due(b, pairs + 120, "frontier");
        b.drop(20, 21);
        doc.due(b, pairs, "frontier");
    }

    /** A chessboard's places of one colour hold all those of the other one: 200 seeds in twenty rows of twenty. */
    private void frontierOfManyTiles() {
        TileBench b = State.made(States::spreading);
        for (int i = 0; i < 200; i++) {
            int y = i / 10;
            b.seed(2 * (i % 10) + y % 2, y, 1);
        }
        doc.due(b, 220, "frontier");
        doc.pair(b, 0, 1, 0, 1);
        doc.pair(b, 9, 19, 0, 1);
        doc.pair(b, 10, 0, 1, 1);
        doc.pair(b, 219, 19, 20, 1);
        doc.throwing(b, Calls.INDEX, "front", 220, 0);
    }

    private void frontTells() {
        TileBench b = new TileBench();
        b.temperature(1);
        b.glue(1, 1);
        b.tile(1, 1, 1, 1);
        b.tile(1, 1, 1, 1);
        b.seed(20, 20, 2);
        int[][] places = {{20, 19}, {19, 20}, {21, 20}, {20, 21}};
        for (int i = 0; i < 8; i++) {
            doc.pair(b, i, places[i / 2][0], places[i / 2][1], 1 + i % 2);
        }
        doc.told(States.SEEDED, 0, "front", 0, 0);
        doc.told(States.SEEDED, 1, "front", 0, 1);
        doc.told(States.SEEDED, 2, "front", 0, 2);
        doc.told(States.SEEDED, 10, "front", 1, 0);
        doc.told(States.SEEDED, 11, "front", 1, 1);
        doc.told(States.SEEDED, 2, "front", 1, 2);
    }

    private void frontAtTheEdges() {
        TileBench b = State.made(States::spreading);
        b.seed(0, 0, 1);
        b.seed(39, 0, 1);
        b.seed(0, 39, 1);
        b.seed(39, 39, 1);
        int[][] places = {{1, 0}, {38, 0}, {0, 1}, {39, 1}, {0, 38}, {39, 38}, {1, 39}, {38, 39}};
        doc.due(b, places.length, "frontier");
        for (int i = 0; i < places.length; i++) {
            doc.pair(b, i, places[i][0], places[i][1], 1);
        }
        b.clear();
        b.seed(1, 0, 1);
        doc.pair(b, 0, 0, 0, 1);
        b.clear();
        b.seed(38, 39, 1);
        doc.pair(b, 2, 39, 39, 1);
    }

    private void frontOfNoPair() {
        for (State state : States.WITHOUT_TILES) {
            for (int i : new int[] {0, 1, -1, LEAST, MOST}) {
                doc.refused(state, Calls.INDEX, "front", i, 0);
                doc.refused(state, Calls.INDEX, "front", i, 3);
            }
        }
        doc.refused(States.FULL, Calls.INDEX, "front", 0, 0);
        for (int i : new int[] {2, -1, LEAST, MOST}) {
            for (int what : new int[] {0, 2, -1, 3, LEAST, MOST}) {
                doc.refused(States.SEEDED, Calls.INDEX, "front", i, what);
            }
        }
    }

    private void frontOfNoSuch() {
        for (int what : new int[] {-1, 3, LEAST, MOST}) {
            doc.refused(States.SEEDED, Calls.ARGUMENT, "front", 0, what);
            doc.refused(States.SEEDED, Calls.ARGUMENT, "front", 1, what);
            doc.refused(States.LEFT, Calls.ARGUMENT, "front", 0, what);
        }
    }
}
