/** The edges of promises 16, 17 and 18: breaches, finals and the seam. */
public final class TellingEdgesTest {
    private static final int MOST = Integer.MAX_VALUE;
    private static final int LEAST = Integer.MIN_VALUE;
    private static final int NONE = -1;

    private final Sentences doc = new Sentences("TellingEdgesTest");

    public static void main(String[] args) {
        TellingEdgesTest test = new TellingEdgesTest();
        test.promise16();
        test.promise17();
        test.promise18();
        test.doc.finish();
    }

    private void promise16() {
        doc.says("16: its number (what = 0; 0 without one); NONE for 1 to 3 without one", this::noBreach);
        doc.says("16: its place's x (1), y (2), the type told with it (3)", this::breachIsTold);
        doc.says("16: a full field of one type", this::breachOfAFullField);
        doc.says("16: IllegalArgumentException", this::breachOfNoSuch);
    }

    private void promise17() {
        doc.says("17: seeds at which nothing may attach are a final", this::seedsAloneAreFinal);
        doc.says("17: all different fields", this::differentFields);
        doc.says("17: from the seeds that there are (other tiles are not there then, dropped seeds neither)", this::seedsThatThereAre);
        doc.says("17: NONE when one of the fields with limit tiles is no final", this::noFinalAtTheLimit);
        doc.says("17: one that is no final is enough", this::oneThatIsNoFinal);
        doc.says("17: (or as many as there are seeds, if these are more)", this::moreSeedsThanLimit);
        doc.says("17: more than 500 fields", this::fiveHundredFields);
        doc.says("17: a field that grows in many orders is one", this::manyOrders);
        doc.says("17: and what grows in one order alone is another one", this::oneOrderAlone);
        doc.says("17: nothing grows beyond the edges", this::finalsAtTheEdges);
        doc.says("17: IllegalStateException: there are no seeds", this::noSeeds);
        doc.says("17: IllegalArgumentException: limit is not 1 .. 30", this::limitOutOfBounds);
    }

    private void promise18() {
        doc.says("18: the least by which two parts of the tiles hold together", this::leastSeam);
        doc.says("18: (none of them empty)", this::seamOfTwo);
        doc.says("18: over all ways to part them", this::seamsOfAllWays);
        doc.says("18: IllegalStateException: there are less than two tiles", this::lessThanTwoTiles);
        doc.says("18: UnsupportedOperationException: there are more than 120", this::moreThan120Tiles);
    }

    private void noBreach() {
        for (State state : new State[] {States.NEW, States.SET, States.SIXTY, States.EMPTIED, States.CLEARED, States.CORNER}) {
            doc.told(state, 0, "breach", 0);
            doc.told(state, NONE, "breach", 1);
            doc.told(state, NONE, "breach", 2);
            doc.told(state, NONE, "breach", 3);
        }
        TileBench b = State.made(States::pair);
        b.seed(20, 20, 1);
        b.grow(1);
        doc.noBreach(b);
    }

    private void breachIsTold() {
        doc.told(States.SEEDED, 3, "breach", 0);
        doc.told(States.SEEDED, 0, "breach", 1);
        doc.told(States.SEEDED, 1, "breach", 2);
        doc.told(States.SEEDED, 2, "breach", 3);
        doc.told(States.LEFT, 3, "breach", 0);
        doc.told(States.LEFT, 10, "breach", 1);
        doc.told(States.LEFT, 10, "breach", 2);
        doc.told(States.LEFT, 1, "breach", 3);
        int[][] corners = {{0, 0}, {39, 0}, {0, 39}, {39, 39}};
        for (int[] place : corners) {
            TileBench one = atPlace(1, 2, 0, place[0], place[1]);
            doc.breach(one, 1, place[0], place[1], 2);
            TileBench two = atPlace(2, 2, 1, place[0], place[1]);
            doc.breach(two, 2, place[0], place[1], 3);
            TileBench three = atPlace(2, 2, 1, place[0], place[1]);
            three.drop(place[0], place[1]);
            doc.breach(three, 3, place[0], place[1], 2);
        }
    }

    /** Type 2 beside a seed of type 1, held by a strength at a temperature; some types more are like it. */
    private static TileBench atPlace(int k, int strength, int alike, int x, int y) {
        TileBench b = new TileBench();
        b.temperature(k);
        b.glue(1, strength);
        b.tile(0, x == 0 ? 0 : 1, 0, x == 0 ? 1 : 0);
        for (int i = 0; i <= alike; i++) {
            b.tile(0, x == 0 ? 1 : 0, 0, x == 0 ? 0 : 1);
        }
        b.seed(x == 0 ? 1 : x - 1, y, 1);
        b.attach(x, y, 2);
        return b;
    }

    /** In rows of one type the tiles that came between two others were held twice. */
    private void breachOfAFullField() {
        TileBench once = State.made(States::spreading);
        once.seed(0, 0, 1);
        once.grow(MOST);
        doc.breach(once, 1, 1, 1, 1);
        doc.told(States.FULL, 1, "breach", 0);
        doc.told(States.FULL, 1, "breach", 3);
        TileBench rule = new TileBench();
        rule.rule(30, 6, 40, 1);
        rule.grow(MOST);
        doc.noBreach(rule);
    }

    private void breachOfNoSuch() {
        for (State[] states : new State[][] {States.WITHOUT_TILES, States.WITH_TILES}) {
            for (State state : states) {
                for (int what : new int[] {-1, 4, LEAST, MOST}) {
                    doc.refused(state, Calls.ARGUMENT, "breach", what);
                }
            }
        }
    }

    /** Rows that grow east from x = 0, each of so many tiles, the seed among them; a type for each tile. */
    private static TileBench rows(int... tiles) {
        TileBench b = new TileBench();
        int type = 0;
        int[] first = new int[tiles.length];
        for (int row = 0; row < tiles.length; row++) {
            first[row] = type + 1;
            for (int x = 0; x < tiles[row]; x++) {
                type++;
                b.glue(type, 2);
                b.tile(0, x == tiles[row] - 1 ? 0 : type, 0, x == 0 ? 0 : type - 1);
            }
        }
        for (int row = 0; row < tiles.length; row++) {
            b.seed(0, 2 * row, first[row]);
        }
        return b;
    }

    private void seedsAloneAreFinal() {
        for (int limit : new int[] {1, 2, 29, 30}) {
            doc.told(States.CORNER, 1, "finals", limit);
            doc.due(rows(1), 1, "finals", limit);
        }
        TileBench b = State.made(States::rich);
        for (int i = 0; i < 400; i++) {
            b.seed(i % 40, i / 40, 4);
        }
        doc.due(b, 1, "finals", 1);
        doc.due(b, 1, "finals", 30);
    }

    private void differentFields() {
        TileBench two = State.made(States::pair);
        two.tile(0, 0, 1, 0);
        two.seed(20, 20, 1);
        doc.due(two, 2, "finals", 2);
        two.seed(10, 20, 1);
        doc.due(two, 4, "finals", 4);
        doc.due(two, NONE, "finals", 3);
        TileBench sixty = new TileBench();
        sixty.glue(1, 2);
        for (int type = 1; type <= 59; type++) {
            sixty.tile(0, 0, 1, 0);
        }
        sixty.tile(1, 0, 0, 0);
        sixty.seed(20, 20, 60);
        doc.due(sixty, 59, "finals", 2);
        TileBench square = new TileBench();
        square.temperature(1);
        for (int g = 1; g <= 4; g++) {
            square.glue(g, 1);
        }
        square.tile(1, 2, 0, 0);
        square.tile(0, 3, 1, 0);
        square.tile(4, 0, 0, 2);
        square.tile(0, 0, 4, 3);
        square.seed(20, 20, 1);
        doc.due(square, 1, "finals", 4);
    }

    private void seedsThatThereAre() {
        doc.told(States.GROWN, NONE, "finals", 5);
        doc.told(States.GROWN, 1, "finals", 6);
        doc.told(States.SEEDED, NONE, "finals", 5);
        doc.told(States.SEEDED, 1, "finals", 6);
        TileBench b = State.made(States::pair);
        b.tile(0, 0, 1, 0);
        b.seed(20, 20, 1);
        b.attach(20, 21, 2);
        doc.due(b, 2, "finals", 2);
        doc.due(b, NONE, "finals", 1);
        TileBench two = State.made(States::pair);
        two.seed(20, 20, 1);
        two.seed(10, 20, 1);
        two.grow(2);
        doc.due(two, NONE, "finals", 3);
        two.drop(10, 20);
        doc.due(two, 1, "finals", 2);
        two.attach(10, 20, 1);
        doc.due(two, 1, "finals", 2);
        doc.due(two, 4, "count", 0);
    }

    private void noFinalAtTheLimit() {
        for (int tiles : new int[] {1, 2, 3, 29, 30, 31, 40}) {
            TileBench b = rows(tiles);
            for (int limit = 1; limit <= 30; limit++) {
                doc.due(b, limit >= tiles ? 1 : NONE, "finals", limit);
            }
        }
        doc.told(States.FULL, NONE, "finals", 1);
        doc.told(States.FULL, NONE, "finals", 30);
        TileBench endless = State.made(States::spreading);
        endless.seed(20, 20, 1);
        doc.due(endless, NONE, "finals", 1);
        doc.due(endless, NONE, "finals", 30);
    }

    /** One kind of second tile ends the row, another one goes on: the first one's end does not help. */
    private void oneThatIsNoFinal() {
        TileBench b = new TileBench();
        b.glue(1, 2);
        b.glue(2, 2);
        b.tile(0, 1, 0, 0);
        b.tile(0, 0, 0, 1);
        b.tile(0, 2, 0, 1);
        b.tile(0, 0, 0, 1);
        b.tile(0, 0, 0, 2);
        b.seed(20, 20, 1);
        doc.due(b, NONE, "finals", 1);
        doc.due(b, NONE, "finals", 2);
        doc.due(b, 3, "finals", 3);
        doc.due(b, 3, "finals", 30);
    }

    /** Type 3 holds nothing; a seed of type 1 can get one tile more, in its north. */
    private static TileBench manySeeds(int many, boolean oneGrows) {
        TileBench b = State.made(States::pair);
        b.tile(0, 0, 0, 0);
        for (int i = oneGrows ? 1 : 0; i < many; i++) {
            b.seed(i % 40, i / 40, 3);
        }
        if (oneGrows) {
            b.seed(20, 30, 1);
        }
        return b;
    }

    private void moreSeedsThanLimit() {
        for (int many : new int[] {1, 2, 28, 29, 30, 31, 32, 100, 400}) {
            TileBench still = manySeeds(many, false);
            TileBench growing = manySeeds(many, true);
            for (int limit : new int[] {1, 2, 3, 28, 29, 30}) {
                doc.due(still, 1, "finals", limit);
                doc.due(growing, limit > many ? 1 : NONE, "finals", limit);
            }
        }
    }

    /**
     * A hub with so many types that may come north, east and south of it, and a row of so many tiles that must
     * come before it: (north + 1) (east + 1) (south + 1) fields, and one for each of the row.
     */
    private static TileBench hub(int before, int north, int east, int south) {
        TileBench b = new TileBench();
        for (int g = 1; g <= 3 + before; g++) {
            b.glue(g, 2);
        }
        b.tile(1, 2, 3, before == 0 ? 0 : 4);
        for (int i = 0; i < before; i++) {
            b.tile(0, 4 + i, 0, i == before - 1 ? 0 : 5 + i);
        }
        for (int i = 0; i < north; i++) {
            b.tile(0, 0, 1, 0);
        }
        for (int i = 0; i < east; i++) {
            b.tile(0, 0, 0, 2);
        }
        for (int i = 0; i < south; i++) {
            b.tile(3, 0, 0, 0);
        }
        b.seed(20 - before, 20, 1 + before);
        return b;
    }

    private void fiveHundredFields() {
        doc.due(hub(0, 4, 9, 9), 4 * 9 * 9, "finals", 30);
        doc.due(hub(0, 4, 9, 9), 4 * 9 * 9, "finals", 4);
        doc.due(hub(0, 4, 9, 9), NONE, "finals", 3);
        doc.due(hub(1, 4, 9, 9), NONE, "finals", 30);
        doc.due(hub(4, 4, 8, 10), 4 * 8 * 10, "finals", 30);
        doc.due(hub(5, 4, 8, 10), 4 * 8 * 10, "finals", 30);
        doc.due(hub(6, 4, 8, 10), NONE, "finals", 30);
        doc.due(hub(0, 6, 7, 8), NONE, "finals", 30);
        doc.due(rows(5, 5, 20), 1, "finals", 30);
        doc.due(rows(5, 5, 20), NONE, "finals", 29);
        doc.due(rows(5, 5, 5, 4), 1, "finals", 30);
        doc.due(rows(5, 5, 5, 4), 1, "finals", 19);
        doc.due(rows(5, 5, 5, 4), NONE, "finals", 18);
        doc.due(rows(7, 8, 9), NONE, "finals", 30);
        doc.due(rows(15, 15), 1, "finals", 30);
    }

    private void manyOrders() {
        for (int seeds = 1; seeds <= 10; seeds++) {
            TileBench b = State.made(States::pair);
            for (int i = 0; i < seeds; i++) {
                b.seed(3 * i, 20, 1);
            }
            doc.due(b, seeds <= 8 ? 1 : NONE, "finals", 2 * seeds);
            doc.due(b, NONE, "finals", 2 * seeds - 1);
        }
    }

    /** Beside the lower seed comes type 4, or type 5 if type 3 has come beside the upper one before. */
    private void oneOrderAlone() {
        for (int y : new int[] {0, 20, 38}) {
            TileBench b = new TileBench();
            b.glue(1, 2);
            b.glue(2, 2);
            b.glue(3, 2);
            b.tile(0, 1, 0, 0);
            b.tile(0, 2, 0, 0);
            b.tile(0, 0, 3, 2);
            b.tile(0, 0, 0, 1);
            b.tile(3, 0, 0, 0);
            b.seed(20, y, 1);
            b.seed(20, y + 1, 2);
            doc.due(b, 2, "finals", 4);
            doc.due(b, NONE, "finals", 3);
        }
    }

    private void finalsAtTheEdges() {
        for (int x : new int[] {0, 20, 39}) {
            for (int y : new int[] {0, 20, 39}) {
                TileBench b = new TileBench();
                for (int g = 1; g <= 4; g++) {
                    b.glue(g, 2);
                }
                b.tile(1, 2, 3, 4);
                b.tile(0, 0, 1, 0);
                b.tile(0, 0, 0, 2);
                b.tile(3, 0, 0, 0);
                b.tile(0, 4, 0, 0);
                b.seed(x, y, 1);
                int tiles = 5 - (x == 20 ? 0 : 1) - (y == 20 ? 0 : 1);
                doc.due(b, 1, "finals", tiles);
                doc.due(b, NONE, "finals", tiles - 1);
            }
        }
    }

    private void noSeeds() {
        for (State state : States.WITHOUT_TILES) {
            for (int limit : new int[] {1, 30, 0, 31, LEAST, MOST}) {
                doc.refused(state, Calls.STATE, "finals", limit);
            }
        }
        for (int limit : new int[] {1, 30, 0, 31, LEAST, MOST}) {
            doc.refused(States.LEFT, Calls.STATE, "finals", limit);
        }
        TileBench b = States.FULL.make();
        b.drop(20, 20);
        doc.throwing(b, Calls.STATE, "finals", 30);
        b.attach(20, 20, 1);
        doc.throwing(b, Calls.STATE, "finals", 30);
    }

    private void limitOutOfBounds() {
        for (State state : new State[] {States.SEEDED, States.CORNER, States.GROWN, States.COUNTING, States.FULL}) {
            for (int limit : new int[] {0, 31, -1, LEAST, MOST}) {
                doc.refused(state, Calls.ARGUMENT, "finals", limit);
            }
        }
    }

    private void leastSeam() {
        for (int strength = 0; strength <= 2; strength++) {
            TileBench b = new TileBench();
            b.glue(1, strength);
            b.tile(1, 1, 1, 1);
            b.tile(2, 2, 2, 2);
            b.tile(0, 0, 0, 0);
            b.seed(20, 20, 1);
            int[][] beside = {{20, 21}, {21, 20}, {20, 19}, {19, 20}};
            for (int[] place : beside) {
                for (int type = 1; type <= 3; type++) {
                    b.seed(place[0], place[1], type);
                    doc.due(b, type == 1 ? strength : 0, "seam");
                    b.drop(place[0], place[1]);
                }
            }
            int[][] apart = {{21, 21}, {20, 22}, {39, 39}, {0, 0}};
            for (int[] place : apart) {
                b.seed(place[0], place[1], 1);
                doc.due(b, 0, "seam");
                b.drop(place[0], place[1]);
            }
        }
    }

    private void seamOfTwo() {
        doc.told(States.GROWN, 0, "seam");
        TileBench b = States.LEFT.make();
        b.attach(10, 10, 1);
        doc.due(b, 2, "seam");
        TileBench corner = State.made(States::spreading);
        corner.seed(39, 39, 1);
        corner.seed(38, 39, 1);
        doc.due(corner, 1, "seam");
        corner.seed(39, 38, 1);
        doc.due(corner, 1, "seam");
        corner.seed(38, 38, 1);
        doc.due(corner, 2, "seam");
    }

    private void seamsOfAllWays() {
        int[][] strengths = {{2, 1}, {2, 0}, {1, 0}};
        for (int[] strength : strengths) {
            for (int weak = 0; weak < 39; weak++) {
                doc.due(rowOf40(strength[0], strength[1], weak, true), strength[1], "seam");
                doc.due(rowOf40(strength[0], strength[1], weak, false), strength[1], "seam");
            }
            doc.due(rowOf40(strength[0], strength[1], 40, true), strength[0], "seam");
            doc.due(rowOf40(strength[0], strength[1], 40, false), strength[0], "seam");
        }
        for (int bridge = 0; bridge <= 4; bridge++) {
            TileBench b = State.made(States::spreading);
            for (int i = 0; i < 16; i++) {
                b.seed(10 + i % 4, 10 + i / 4, 1);
                b.seed(15 + i % 4, 10 + i / 4, 1);
            }
            for (int y = 0; y < bridge; y++) {
                b.seed(14, 10 + y, 1);
            }
            doc.due(b, Math.min(2, bridge), "seam");
        }
    }

    /** A row along an edge, all of it strong but for one place, behind tile number weak. */
    private static TileBench rowOf40(int strong, int little, int weak, boolean east) {
        TileBench b = new TileBench();
        b.glue(1, strong);
        b.glue(2, little);
        b.tile(1, 1, 1, 1);
        b.tile(2, 2, 1, 1);
        b.tile(1, 1, 2, 2);
        for (int i = 0; i < 40; i++) {
            int type = i == weak ? 2 : i == weak + 1 ? 3 : 1;
            b.seed(east ? i : 39, east ? 39 : i, type);
        }
        return b;
    }

    private void lessThanTwoTiles() {
        for (State state : States.WITHOUT_TILES) {
            doc.refused(state, Calls.STATE, "seam");
        }
        doc.refused(States.CORNER, Calls.STATE, "seam");
        doc.refused(States.LEFT, Calls.STATE, "seam");
        TileBench b = State.made(States::pair);
        b.seed(20, 20, 1);
        doc.throwing(b, Calls.STATE, "seam");
        b.attach(20, 21, 2);
        doc.due(b, 2, "seam");
        b.drop(20, 20);
        doc.throwing(b, Calls.STATE, "seam");
    }

    private static void block(TileBench b, int strength, int tiles) {
        b.glue(1, strength);
        b.tile(1, 1, 1, 1);
        for (int i = 0; i < tiles; i++) {
            b.seed(28 + i % 12, i / 12, 1);
        }
    }

    private void moreThan120Tiles() {
        for (int strength = 0; strength <= 2; strength++) {
            int holds = strength;
            doc.due(State.made(b -> block(b, holds, 119)), 2 * strength, "seam");
            doc.told(new State("120 seeds", b -> block(b, holds, 120)), 2 * strength, "seam");
            doc.refused(new State("121 seeds", b -> block(b, holds, 121)), Calls.UNSUPPORTED, "seam");
        }
        doc.refused(States.FULL, Calls.UNSUPPORTED, "seam");
        TileBench b = State.made(States::spreading);
        b.seed(20, 20, 1);
        b.grow(119);
        doc.due(b, 1, "seam");
        b.grow(1);
        doc.throwing(b, Calls.UNSUPPORTED, "seam");
        b.drop(20, 20);
        doc.due(b, 1, "seam");
    }
}
