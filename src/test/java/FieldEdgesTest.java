/** The edges of promises 5, 6, 8, 11, 14 and 15: tiles that come and go, and what is told of them. */
public final class FieldEdgesTest {
    private static final int MOST = Integer.MAX_VALUE;
    private static final int LEAST = Integer.MIN_VALUE;
    private static final int[] NO_PLACE = {-1, 40, LEAST, MOST};

    private final Sentences doc = new Sentences("FieldEdgesTest");

    public static void main(String[] args) {
        FieldEdgesTest test = new FieldEdgesTest();
        test.promise5();
        test.promise6();
        test.promise8();
        test.promise11();
        test.promise14();
        test.promise15();
        test.doc.finish();
    }

    private void promise5() {
        doc.says("5: A seed.", this::seedIsPut);
        doc.says("5: IndexOutOfBoundsException", this::seedAtNoPlace);
        doc.says("5: IllegalArgumentException", this::seedOfNoType);
        doc.says("5: IllegalStateException: a tile is there", this::seedWhereOneIs);
        doc.says("5: or one has attached since the field was empty", this::seedAfterOneHasAttached);
        doc.says("5: (also by drop())", this::seedAfterAllWereDropped);
        doc.says("5: a call that attaches nothing leaves seeds free", this::seedAfterNothingAttached);
    }

    private void promise6() {
        doc.says("6: how many tiles it had", this::clearTells);
        doc.says("6: The field is empty", this::clearEmpties);
        doc.says("6: of an empty field 0, and nothing changes", this::clearOfNothing);
        doc.says("6: types, glues and temperature stay", this::clearLeavesTheSet);
    }

    private void promise8() {
        doc.says("8: A tile attaches, if it may: whether it does.", this::attachTells);
        doc.says("8: one that may not changes nothing", this::attachThatMayNot);
        doc.says("8: IndexOutOfBoundsException", this::attachAtNoPlace);
        doc.says("8: IllegalArgumentException", this::attachOfNoType);
    }

    private void promise11() {
        doc.says("11: A tile is taken away: its type", this::dropTakesAway);
        doc.says("11: 0 when there is none", this::dropOfNothing);
        doc.says("11: of a full field", this::dropOfAFullField);
        doc.says("11: IndexOutOfBoundsException", this::dropAtNoPlace);
    }

    private void promise14() {
        doc.says("14: the type (what = 0; 0 without a tile)", this::atTellsTheType);
        doc.says("14: NONE for 1 to 3 without a tile", this::atWithoutATile);
        doc.says("14: whether it is a seed (3; 1 or 0)", this::atTellsSeeds);
        doc.says("14: IndexOutOfBoundsException", this::atNoPlace);
        doc.says("14: IllegalArgumentException", this::atOfNoSuch);
    }

    private void promise15() {
        doc.says("15: How many tiles of a type there are", this::countOfTypes);
        doc.says("15: of all for 0", this::countOfAll);
        doc.says("15: IllegalArgumentException", this::countOfNoType);
    }

    private static int[] noTypesIn(State state) {
        int types = state == States.NEW ? 0 : state == States.SIXTY ? 60 : state == States.COUNTING ? 7
            : state == States.FULL ? 1 : 4;
        return new int[] {types + 1, -1, LEAST, MOST};
    }

    private void seedIsPut() {
        for (int x : new int[] {0, 39}) {
            for (int y : new int[] {0, 39}) {
                for (int type : new int[] {1, 60}) {
                    TileBench b = States.SIXTY.make();
                    doc.done(b, "seed", x, y, type);
                    doc.tile(b, x, y, type, 0, 0, 1);
                    doc.due(b, 1, "count", 0);
                    doc.due(b, 1, "count", type);
                }
            }
        }
        TileBench b = States.SET.make();
        for (int i = 0; i < 400; i++) {
            doc.done(b, "seed", i % 40, i / 40, 1 + i % 4);
        }
        doc.due(b, 400, "count", 0);
        doc.throwing(b, Calls.STATE, "seed", 39, 9, 1);
        doc.done(b, "seed", 0, 10, 1);
    }

    private void seedAtNoPlace() {
        for (int bad : NO_PLACE) {
            for (State state : new State[] {States.NEW, States.SET, States.SEEDED, States.GROWN, States.FULL}) {
                doc.refused(state, Calls.INDEX, "seed", bad, 0, 1);
                doc.refused(state, Calls.INDEX, "seed", 39, bad, 1);
                doc.refused(state, Calls.INDEX, "seed", bad, bad, 0);
                doc.refused(state, Calls.INDEX, "seed", 0, bad, 61);
            }
        }
    }

    private void seedOfNoType() {
        State[] states = {States.NEW, States.SET, States.SIXTY, States.EMPTIED, States.SEEDED, States.GROWN, States.LEFT,
            States.COUNTING, States.FULL};
        for (State state : states) {
            doc.refused(state, Calls.ARGUMENT, "seed", 30, 30, 0);
            for (int type : noTypesIn(state)) {
                doc.refused(state, Calls.ARGUMENT, "seed", 30, 30, type);
                doc.refused(state, Calls.ARGUMENT, "seed", 10, 10, type);
            }
        }
    }

    private void seedWhereOneIs() {
        doc.refused(States.SEEDED, Calls.STATE, "seed", 10, 10, 1);
        doc.refused(States.SEEDED, Calls.STATE, "seed", 10, 10, 4);
        doc.refused(States.SEEDED, Calls.STATE, "seed", 0, 0, 1);
        doc.refused(States.CORNER, Calls.STATE, "seed", 39, 39, 1);
        doc.refused(States.GROWN, Calls.STATE, "seed", 10, 11, 2);
        doc.refused(States.FULL, Calls.STATE, "seed", 0, 0, 1);
        doc.refused(States.FULL, Calls.STATE, "seed", 39, 39, 1);
        TileBench b = States.SEEDED.make();
        b.drop(10, 10);
        doc.done(b, "seed", 10, 10, 4);
        doc.tile(b, 10, 10, 4, 0, 0, 1);
        doc.done(b, "seed", 11, 11, 1);
        doc.done(b, "seed", 39, 39, 1);
    }

    private void seedAfterOneHasAttached() {
        for (State state : new State[] {States.GROWN, States.LEFT, States.COUNTING}) {
            doc.refused(state, Calls.STATE, "seed", 30, 30, 1);
            doc.refused(state, Calls.STATE, "seed", 39, 39, 1);
        }
        TileBench full = States.FULL.make();
        full.drop(39, 39);
        doc.throwing(full, Calls.STATE, "seed", 39, 39, 1);
        doc.noTile(full, 39, 39);
        TileBench byAttach = States.SEEDED.make();
        byAttach.attach(10, 11, 2);
        doc.throwing(byAttach, Calls.STATE, "seed", 30, 30, 1);
        TileBench byGrow = States.SEEDED.make();
        byGrow.grow(1);
        doc.throwing(byGrow, Calls.STATE, "seed", 30, 30, 1);
        TileBench byDrawn = States.SEEDED.make();
        byDrawn.drawn(1, 5);
        doc.throwing(byDrawn, Calls.STATE, "seed", 30, 30, 1);
        byAttach.drop(10, 11);
        doc.throwing(byAttach, Calls.STATE, "seed", 30, 30, 1);
        doc.throwing(byAttach, Calls.STATE, "seed", 10, 11, 2);
    }

    private void seedAfterAllWereDropped() {
        TileBench b = States.GROWN.make();
        int[][] tiles = {{10, 10}, {10, 11}, {11, 11}, {0, 0}, {11, 10}};
        for (int[] place : tiles) {
            doc.throwing(b, Calls.STATE, "seed", 30, 30, 1);
            b.drop(place[0], place[1]);
        }
        doc.due(b, 0, "count", 0);
        doc.done(b, "seed", 30, 30, 1);
        doc.done(b, "seed", 30, 31, 1);
        doc.allowed(States.LEFT, 2, "drop", 10, 11);
        TileBench left = States.LEFT.make();
        left.drop(10, 11);
        doc.done(left, "seed", 10, 11, 1);
        TileBench cleared = States.GROWN.make();
        cleared.clear();
        doc.done(cleared, "seed", 30, 30, 1);
        TileBench full = States.FULL.make();
        full.clear();
        doc.done(full, "seed", 39, 39, 1);
    }

    private void seedAfterNothingAttached() {
        TileBench b = States.SEEDED.make();
        doc.due(b, 0, "attach", 30, 30, 1);
        doc.due(b, 0, "attach", 10, 10, 1);
        doc.throwing(b, Calls.ARGUMENT, "attach", 10, 11, 5);
        doc.due(b, 0, "grow", 0);
        doc.due(b, 0, "drawn", 0, 7);
        doc.throwing(b, Calls.ARGUMENT, "grow", -1);
        doc.throwing(b, Calls.ARGUMENT, "drawn", -1, 7);
        b.finals(8);
        b.drop(0, 0);
        doc.done(b, "seed", 30, 30, 1);
        TileBench corner = States.CORNER.make();
        doc.due(corner, 0, "grow", 5);
        doc.due(corner, 0, "drawn", 5, 5);
        doc.done(corner, "seed", 30, 30, 1);
        TileBench counter = new TileBench();
        counter.counter(2, 3, 3);
        doc.done(counter, "seed", 30, 30, 1);
        TileBench rule = new TileBench();
        rule.rule(2, 6, 3, 1);
        doc.done(rule, "seed", 30, 30, 1);
    }

    private void clearTells() {
        doc.allowed(States.SEEDED, 3, "clear");
        doc.allowed(States.CORNER, 1, "clear");
        doc.allowed(States.GROWN, 5, "clear");
        doc.allowed(States.LEFT, 1, "clear");
        doc.allowed(States.COUNTING, 11, "clear");
        doc.allowed(States.FULL, 1600, "clear");
        TileBench b = States.FULL.make();
        b.drop(0, 0);
        doc.due(b, 1599, "clear");
        doc.due(b, 0, "clear");
    }

    private void clearEmpties() {
        for (State state : States.WITH_TILES) {
            TileBench b = state.make();
            b.clear();
            doc.due(b, 0, "count", 0);
            doc.due(b, 0, "count", 1);
            doc.due(b, 0, "frontier");
            doc.noBreach(b);
            doc.throwing(b, Calls.STATE, "finals", 1);
            doc.throwing(b, Calls.STATE, "seam");
            doc.due(b, 0, "grow", 9);
            int[][] places = {{0, 0}, {39, 39}, {10, 10}, {11, 11}, {3, 1}, {20, 20}};
            for (int[] place : places) {
                doc.noTile(b, place[0], place[1]);
                doc.due(b, 0, "drop", place[0], place[1]);
            }
            doc.done(b, "seed", 10, 10, 1);
            doc.tile(b, 10, 10, 1, 0, 0, 1);
        }
    }

    private void clearOfNothing() {
        for (State state : States.WITHOUT_TILES) {
            doc.told(state, 0, "clear");
        }
    }

    private void clearLeavesTheSet() {
        TileBench b = States.GROWN.make();
        b.clear();
        doc.due(b, 2, "glue", 1, 2);
        doc.due(b, 1, "glue", 99, 1);
        doc.due(b, 2, "temperature", 2);
        doc.due(b, 5, "tile", 0, 0, 0, 0);
        TileBench full = States.FULL.make();
        full.clear();
        doc.due(full, 1, "temperature", 1);
        doc.due(full, 1, "glue", 5, 1);
        full.seed(39, 39, 1);
        doc.due(full, 1599, "grow", 1600);
        TileBench counting = States.COUNTING.make();
        counting.clear();
        doc.due(counting, 8, "tile", 0, 0, 0, 0);
        doc.due(counting, 1, "glue", 4, 1);
    }

    private void attachTells() {
        TileBench b = States.SEEDED.make();
        doc.due(b, 1, "attach", 10, 11, 2);
        doc.tile(b, 10, 11, 2, 4, 0, 0);
        doc.due(b, 0, "attach", 10, 11, 2);
        doc.due(b, 1, "attach", 11, 11, 4);
        doc.tile(b, 11, 11, 4, 12, 0, 0);
        doc.due(b, 5, "count", 0);
        TileBench last = States.FULL.make();
        last.drop(39, 39);
        doc.due(last, 1, "attach", 39, 39, 1);
        doc.tile(last, 39, 39, 1, 12, 0, 0);
        last.drop(0, 0);
        doc.due(last, 1, "attach", 0, 0, 1);
        doc.due(last, 3, "at", 0, 0, 1);
        doc.due(last, 1600, "count", 0);
    }

    private void attachThatMayNot() {
        doc.told(States.SET, 0, "attach", 10, 11, 2);
        doc.told(States.EMPTIED, 0, "attach", 7, 8, 2);
        doc.told(States.CLEARED, 0, "attach", 7, 8, 2);
        doc.told(States.SEEDED, 0, "attach", 10, 11, 1);
        doc.told(States.SEEDED, 0, "attach", 11, 11, 4);
        doc.told(States.SEEDED, 0, "attach", 10, 10, 2);
        doc.told(States.GROWN, 0, "attach", 11, 11, 4);
        doc.told(States.FULL, 0, "attach", 5, 5, 1);
    }

    private void attachAtNoPlace() {
        for (int bad : NO_PLACE) {
            for (State state : new State[] {States.NEW, States.SEEDED, States.FULL}) {
                doc.refused(state, Calls.INDEX, "attach", bad, 0, 1);
                doc.refused(state, Calls.INDEX, "attach", 39, bad, 1);
                doc.refused(state, Calls.INDEX, "attach", bad, bad, 0);
                doc.refused(state, Calls.INDEX, "attach", 0, bad, 61);
            }
        }
    }

    private void attachOfNoType() {
        State[] states = {States.NEW, States.SET, States.SIXTY, States.SEEDED, States.GROWN, States.COUNTING, States.FULL};
        for (State state : states) {
            doc.refused(state, Calls.ARGUMENT, "attach", 10, 11, 0);
            for (int type : noTypesIn(state)) {
                doc.refused(state, Calls.ARGUMENT, "attach", 10, 11, type);
                doc.refused(state, Calls.ARGUMENT, "attach", 39, 39, type);
            }
        }
    }

    private void dropTakesAway() {
        TileBench b = States.GROWN.make();
        doc.due(b, 4, "drop", 11, 11);
        doc.noTile(b, 11, 11);
        doc.due(b, 0, "drop", 11, 11);
        doc.due(b, 4, "count", 0);
        doc.due(b, 0, "count", 4);
        doc.due(b, 2, "drop", 10, 11);
        doc.due(b, 1, "drop", 10, 10);
        doc.due(b, 3, "drop", 11, 10);
        doc.due(b, 1, "drop", 0, 0);
        doc.due(b, 0, "count", 0);
        doc.due(b, 0, "frontier");
        doc.noBreach(b);
        TileBench sixty = States.SIXTY.make();
        sixty.seed(39, 39, 60);
        doc.due(sixty, 60, "drop", 39, 39);
        doc.due(sixty, 0, "drop", 39, 39);
        TileBench one = States.LEFT.make();
        doc.due(one, 1, "frontier");
        doc.due(one, 2, "drop", 10, 11);
        doc.due(one, 0, "frontier");
    }

    private void dropOfNothing() {
        for (State state : States.WITHOUT_TILES) {
            doc.told(state, 0, "drop", 0, 0);
            doc.told(state, 0, "drop", 39, 39);
            doc.told(state, 0, "drop", 7, 8);
        }
        doc.told(States.GROWN, 0, "drop", 12, 11);
        doc.told(States.GROWN, 0, "drop", 0, 39);
        doc.told(States.GROWN, 0, "drop", 39, 0);
        doc.told(States.LEFT, 0, "drop", 10, 10);
    }

    private void dropOfAFullField() {
        int[][] places = {{0, 0}, {39, 0}, {0, 39}, {39, 39}, {0, 17}, {39, 17}, {17, 0}, {17, 39}, {20, 20}, {7, 7}};
        for (int[] place : places) {
            TileBench b = States.FULL.make();
            doc.due(b, 1, "drop", place[0], place[1]);
            doc.noTile(b, place[0], place[1]);
            doc.due(b, 1599, "count", 0);
            doc.due(b, 1, "frontier");
            doc.pair(b, 0, place[0], place[1], 1);
            doc.due(b, 1, "grow", 2);
            doc.due(b, 0, "at", place[0], place[1], 3);
            doc.due(b, 0, "frontier");
        }
    }

    private void dropAtNoPlace() {
        for (int bad : NO_PLACE) {
            for (State state : new State[] {States.NEW, States.CORNER, States.GROWN, States.FULL}) {
                doc.refused(state, Calls.INDEX, "drop", bad, 0);
                doc.refused(state, Calls.INDEX, "drop", 39, bad);
                doc.refused(state, Calls.INDEX, "drop", bad, bad);
            }
        }
    }

    private void atTellsTheType() {
        doc.told(States.NEW, 0, "at", 0, 0, 0);
        doc.told(States.NEW, 0, "at", 39, 39, 0);
        doc.told(States.SEEDED, 1, "at", 0, 0, 0);
        doc.told(States.SEEDED, 0, "at", 0, 1, 0);
        doc.told(States.CORNER, 4, "at", 39, 39, 0);
        doc.told(States.GROWN, 4, "at", 11, 11, 0);
        doc.told(States.LEFT, 0, "at", 10, 10, 0);
        doc.told(States.FULL, 1, "at", 39, 0, 0);
        TileBench b = States.SIXTY.make();
        b.seed(0, 39, 60);
        doc.due(b, 60, "at", 0, 39, 0);
    }

    private void atWithoutATile() {
        for (State state : States.WITHOUT_TILES) {
            for (int what = 1; what <= 3; what++) {
                doc.told(state, -1, "at", 0, 0, what);
                doc.told(state, -1, "at", 39, 39, what);
                doc.told(state, -1, "at", 7, 8, what);
            }
        }
        for (int what = 1; what <= 3; what++) {
            doc.told(States.LEFT, -1, "at", 10, 10, what);
            doc.told(States.SEEDED, -1, "at", 10, 11, what);
            doc.told(States.GROWN, -1, "at", 12, 11, what);
        }
    }

    private void atTellsSeeds() {
        doc.told(States.SEEDED, 1, "at", 10, 10, 3);
        doc.told(States.CORNER, 1, "at", 39, 39, 3);
        doc.told(States.GROWN, 0, "at", 10, 11, 3);
        doc.told(States.GROWN, 1, "at", 10, 10, 3);
        doc.told(States.COUNTING, 1, "at", 3, 3, 3);
        doc.told(States.FULL, 1, "at", 20, 20, 3);
        doc.told(States.FULL, 0, "at", 20, 21, 3);
        TileBench b = States.GROWN.make();
        b.drop(10, 10);
        doc.due(b, -1, "at", 10, 10, 3);
        doc.due(b, 1, "attach", 10, 10, 1);
        doc.due(b, 0, "at", 10, 10, 3);
    }

    private void atNoPlace() {
        for (int bad : NO_PLACE) {
            for (State state : new State[] {States.NEW, States.GROWN, States.FULL}) {
                for (int what : new int[] {0, 3, -1, 4}) {
                    doc.refused(state, Calls.INDEX, "at", bad, 0, what);
                    doc.refused(state, Calls.INDEX, "at", 39, bad, what);
                }
            }
        }
    }

    private void atOfNoSuch() {
        for (int what : new int[] {-1, 4, LEAST, MOST}) {
            doc.refused(States.NEW, Calls.ARGUMENT, "at", 0, 0, what);
            doc.refused(States.GROWN, Calls.ARGUMENT, "at", 10, 10, what);
            doc.refused(States.GROWN, Calls.ARGUMENT, "at", 39, 39, what);
            doc.refused(States.FULL, Calls.ARGUMENT, "at", 0, 0, what);
        }
    }

    private void countOfTypes() {
        doc.told(States.SET, 0, "count", 1);
        doc.told(States.SET, 0, "count", 4);
        doc.told(States.SIXTY, 0, "count", 60);
        doc.told(States.SEEDED, 2, "count", 1);
        doc.told(States.GROWN, 1, "count", 4);
        doc.told(States.LEFT, 0, "count", 1);
        doc.told(States.LEFT, 1, "count", 2);
        doc.told(States.FULL, 1600, "count", 1);
    }

    private void countOfAll() {
        for (State state : States.WITHOUT_TILES) {
            doc.told(state, 0, "count", 0);
        }
        doc.told(States.CORNER, 1, "count", 0);
        doc.told(States.SEEDED, 3, "count", 0);
        doc.told(States.GROWN, 5, "count", 0);
        doc.told(States.LEFT, 1, "count", 0);
        doc.told(States.FULL, 1600, "count", 0);
    }

    private void countOfNoType() {
        for (State[] states : new State[][] {States.WITHOUT_TILES, States.WITH_TILES}) {
            for (State state : states) {
                for (int type : noTypesIn(state)) {
                    doc.refused(state, Calls.ARGUMENT, "count", type);
                }
            }
        }
    }
}
