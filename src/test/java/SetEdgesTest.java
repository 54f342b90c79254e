import java.util.function.Consumer;

/** The edges of promises 1 to 4, 7, 19 and 20: what makes and changes a set of types and glues. */
public final class SetEdgesTest {
    private static final int MOST = Integer.MAX_VALUE;
    private static final int LEAST = Integer.MIN_VALUE;

    private final Sentences doc = new Sentences("SetEdgesTest");

    public static void main(String[] args) {
        SetEdgesTest test = new SetEdgesTest();
        test.promise1();
        test.promise2();
        test.promise3();
        test.promise4();
        test.promise7();
        test.promise19();
        test.promise20();
        test.doc.finish();
    }

    private void promise1() {
        doc.says("1: No types, no tiles.", this::nothingAtFirst);
        doc.says("1: NONE = -1", () -> doc.due(new TileBench(), TileBench.NONE, "at", 0, 0, 1));
    }

    private void promise2() {
        doc.says("2: A glue's strength: what it was.", this::glueTellsWhatItWas);
        doc.says("2: IllegalStateException", this::glueBesideTiles);
        doc.says("2: IllegalArgumentException: g is not 1 .. 99", this::glueOutOfBounds);
        doc.says("2: strength not 0 .. 2", this::strengthOutOfBounds);
    }

    private void promise3() {
        doc.says("3: A type more, by its glues: its number.", this::tilesAreNumbered);
        doc.says("3: IllegalStateException", this::tileBesideTiles);
        doc.says("3: IllegalArgumentException: one is not 0 .. 99", this::sideOutOfBounds);
        doc.says("3: UnsupportedOperationException: there are 60", this::sixtyTypes);
    }

    private void promise4() {
        doc.says("4: The temperature: what it was.", this::temperatureTellsWhatItWas);
        doc.says("4: IllegalStateException", this::temperatureBesideTiles);
        doc.says("4: IllegalArgumentException: it is not 1 .. 3", this::temperatureOutOfBounds);
    }

    private void promise7() {
        doc.says("7: All is as at first: no types, glues without strength, temperature 2, the field empty", this::resetOfAll);
        doc.says("7: what the types of before were is forgotten", this::resetForgetsTypes);
    }

    private void promise19() {
        doc.says("19: how many types", this::counterHasSevenTypes);
        doc.says("19: in place of all types and glues; the temperature is 2", this::counterInPlaceOfAll);
        doc.says("19: the lowest one at x = bits - 1, the others west of it", this::counterSeedsOfRowZero);
        doc.says("19: type 3 at x = bits in the rows 1 .. rows - 1", this::counterSeedsOfTheColumn);
        doc.says("19: north 1 + (b + c) % 2, west 3 + b c", this::counterTypes);
        doc.says("19: all ones go on to zeros", this::counterOverflows);
        doc.says("19: IllegalStateException", this::counterBesideTiles);
        doc.says("19: IllegalArgumentException: bits is not 1 .. 20", this::bitsOutOfBounds);
        doc.says("19: rows not 1 .. 40", this::counterRowsOutOfBounds);
        doc.says("19: or start not 0 .. 2^bits - 1", this::startOutOfBounds);
    }

    private void promise20() {
        doc.says("20: how many types", this::ruleHasSevenTypes);
        doc.says("20: in place of all types and glues; the temperature is 2", this::ruleInPlaceOfAll);
        doc.says("20: cell i of row 0, at x = i + 1, is bit i of first", this::ruleSeedsOfRowZero);
        doc.says("20: type 3 at x = 0 in the rows 1 .. rows - 1", this::ruleSeedsOfTheColumn);
        doc.says("20: north 1 + bit 2 a + b of rule", this::ruleTypes);
        doc.says("20: IllegalStateException", this::ruleBesideTiles);
        doc.says("20: IllegalArgumentException: width is not 1 .. 30", this::widthOutOfBounds);
        doc.says("20: rule not 0 .. 15", this::ruleOutOfBounds);
        doc.says("20: rows not 1 .. 40", this::ruleRowsOutOfBounds);
        doc.says("20: or first not 0 .. 2^width - 1", this::firstOutOfBounds);
    }

    private void nothingAtFirst() {
        TileBench b = new TileBench();
        doc.due(b, 0, "count", 0);
        doc.throwing(b, Calls.ARGUMENT, "count", 1);
        doc.due(b, 0, "frontier");
        doc.throwing(b, Calls.INDEX, "front", 0, 0);
        doc.noBreach(b);
        doc.throwing(b, Calls.STATE, "finals", 1);
        doc.throwing(b, Calls.STATE, "seam");
        doc.due(b, 0, "grow", 1);
        doc.due(b, 0, "drawn", 1, 1);
        doc.due(b, 0, "drop", 0, 0);
        doc.throwing(b, Calls.ARGUMENT, "seed", 0, 0, 1);
        doc.throwing(b, Calls.ARGUMENT, "attach", 0, 0, 1);
        doc.noTile(b, 0, 0);
        doc.noTile(b, 39, 39);
        doc.due(b, 0, "clear");
        doc.due(b, 2, "temperature", 2);
        doc.due(b, 1, "tile", 0, 0, 0, 0);
        for (int g = 1; g <= 99; g++) {
            doc.due(b, 0, "glue", g, 0);
        }
    }

    private void glueTellsWhatItWas() {
        for (int g : new int[] {1, 2, 98, 99}) {
            TileBench b = new TileBench();
            doc.due(b, 0, "glue", g, 2);
            doc.due(b, 2, "glue", g, 1);
            doc.due(b, 1, "glue", g, 1);
            doc.due(b, 1, "glue", g, 0);
            doc.due(b, 0, "glue", g, 0);
            doc.due(b, 0, "glue", g == 99 ? 1 : g + 1, 0);
        }
        doc.allowed(States.EMPTIED, 2, "glue", 1, 0);
        doc.allowed(States.CLEARED, 2, "glue", 1, 0);
        doc.allowed(States.SIXTY, 2, "glue", 98, 1);
    }

    private void glueBesideTiles() {
        for (State state : States.WITH_TILES) {
            doc.refused(state, Calls.STATE, "glue", 1, 0);
            doc.refused(state, Calls.STATE, "glue", 99, 2);
            doc.refused(state, Calls.STATE, "glue", 0, 1);
            doc.refused(state, Calls.STATE, "glue", 1, 3);
        }
    }

    private void glueOutOfBounds() {
        for (State state : States.WITHOUT_TILES) {
            for (int g : new int[] {0, -1, 100, LEAST, MOST}) {
                doc.refused(state, Calls.ARGUMENT, "glue", g, 1);
            }
        }
    }

    private void strengthOutOfBounds() {
        for (State state : States.WITHOUT_TILES) {
            for (int strength : new int[] {-1, 3, LEAST, MOST}) {
                doc.refused(state, Calls.ARGUMENT, "glue", 1, strength);
                doc.refused(state, Calls.ARGUMENT, "glue", 99, strength);
            }
            doc.refused(state, Calls.ARGUMENT, "glue", 100, 3);
        }
    }

    private void tilesAreNumbered() {
        TileBench b = new TileBench();
        doc.due(b, 1, "tile", 0, 0, 0, 0);
        doc.due(b, 2, "tile", 99, 99, 99, 99);
        doc.due(b, 3, "tile", 99, 99, 99, 99);
        doc.due(b, 4, "tile", 0, 99, 0, 99);
        doc.allowed(States.EMPTIED, 5, "tile", 1, 1, 1, 1);
        doc.allowed(States.CLEARED, 5, "tile", 1, 1, 1, 1);
        b.temperature(1);
        b.glue(99, 1);
        b.seed(20, 20, 4);
        doc.due(b, 6, "frontier");
    }

    private void tileBesideTiles() {
        for (State state : States.WITH_TILES) {
            doc.refused(state, Calls.STATE, "tile", 1, 1, 1, 1);
            doc.refused(state, Calls.STATE, "tile", 100, 1, 1, 1);
            doc.refused(state, Calls.STATE, "tile", 1, -1, 1, 1);
            doc.refused(state, Calls.STATE, "tile", 1, 1, 100, 1);
            doc.refused(state, Calls.STATE, "tile", 1, 1, 1, -1);
        }
        TileBench b = States.SIXTY.make();
        b.seed(3, 3, 60);
        doc.throwing(b, Calls.STATE, "tile", 1, 1, 1, 1);
        doc.throwing(b, Calls.STATE, "tile", 1, 1, 1, -1);
    }

    private void sideOutOfBounds() {
        for (int bad : new int[] {-1, 100, LEAST, MOST}) {
            for (State state : States.WITHOUT_TILES) {
                doc.refused(state, Calls.ARGUMENT, "tile", bad, 0, 0, 0);
                doc.refused(state, Calls.ARGUMENT, "tile", 99, bad, 99, 99);
                doc.refused(state, Calls.ARGUMENT, "tile", 0, 0, bad, 0);
                doc.refused(state, Calls.ARGUMENT, "tile", 99, 99, 99, bad);
            }
        }
    }

    private void sixtyTypes() {
        TileBench b = new TileBench();
        for (int type = 1; type <= 60; type++) {
            doc.due(b, type, "tile", type, 0, 0, 99);
        }
        doc.refused(States.SIXTY, Calls.UNSUPPORTED, "tile", 0, 0, 0, 0);
        doc.refused(States.SIXTY, Calls.UNSUPPORTED, "tile", 99, 99, 99, 99);
        doc.refused(States.SIXTY, Calls.ARGUMENT, "tile", 99, 99, 99, 100);
        doc.refused(States.SIXTY, Calls.ARGUMENT, "tile", -1, 0, 0, 0);
        b.reset();
        doc.due(b, 1, "tile", 0, 0, 0, 0);
    }

    private void temperatureTellsWhatItWas() {
        TileBench b = new TileBench();
        doc.due(b, 2, "temperature", 1);
        doc.due(b, 1, "temperature", 3);
        doc.due(b, 3, "temperature", 3);
        doc.due(b, 3, "temperature", 2);
        doc.allowed(States.SIXTY, 3, "temperature", 1);
        doc.allowed(States.EMPTIED, 2, "temperature", 1);
        doc.allowed(States.CLEARED, 2, "temperature", 1);
    }

    private void temperatureBesideTiles() {
        for (State state : States.WITH_TILES) {
            doc.refused(state, Calls.STATE, "temperature", 1);
            doc.refused(state, Calls.STATE, "temperature", 3);
            doc.refused(state, Calls.STATE, "temperature", 0);
            doc.refused(state, Calls.STATE, "temperature", 4);
        }
    }

    private void temperatureOutOfBounds() {
        for (State state : States.WITHOUT_TILES) {
            for (int k : new int[] {0, 4, -1, LEAST, MOST}) {
                doc.refused(state, Calls.ARGUMENT, "temperature", k);
            }
        }
    }

    private void resetOfAll() {
        for (State[] states : new State[][] {States.WITHOUT_TILES, States.WITH_TILES}) {
            for (State state : states) {
                TileBench b = state.make();
                doc.done(b, "reset");
                doc.due(b, 0, "count", 0);
                doc.throwing(b, Calls.ARGUMENT, "count", 1);
                doc.due(b, 0, "frontier");
                doc.noBreach(b);
                doc.throwing(b, Calls.STATE, "finals", 1);
                doc.due(b, 0, "clear");
                doc.due(b, 2, "temperature", 2);
                for (int g = 1; g <= 99; g++) {
                    doc.due(b, 0, "glue", g, 0);
                }
                doc.due(b, 1, "tile", 0, 0, 0, 0);
                doc.done(b, "seed", 20, 20, 1);
            }
        }
    }

    private void resetForgetsTypes() {
        TileBench b = State.made(States::rich);
        b.reset();
        b.temperature(1);
        for (int g = 1; g <= 99; g++) {
            b.glue(g, 2);
        }
        for (int type = 1; type <= 4; type++) {
            b.tile(0, 0, 0, 0);
        }
        doc.due(b, 5, "tile", 1, 2, 99, 3);
        b.seed(20, 20, 5);
        doc.due(b, 0, "frontier");
    }

    private void counterHasSevenTypes() {
        int[][] edges = {{1, 0, 1}, {1, 1, 1}, {1, 0, 40}, {1, 1, 40}, {20, 0, 1}, {20, 1048575, 1}, {20, 0, 40},
            {20, 1048575, 40}};
        for (int[] edge : edges) {
            for (State state : States.WITHOUT_TILES) {
                TileBench b = state.make();
                doc.due(b, 7, "counter", edge[0], edge[1], edge[2]);
                doc.due(b, edge[0] + edge[2] - 1, "count", 0);
                doc.due(b, edge[2] - 1, "count", 3);
                doc.due(b, 0, "count", 7);
                doc.throwing(b, Calls.ARGUMENT, "count", 8);
                doc.due(b, edge[0] * (edge[2] - 1), "grow", MOST);
                doc.noBreach(b);
            }
        }
    }

    private void counterInPlaceOfAll() {
        for (State state : States.WITHOUT_TILES) {
            TileBench b = state.make();
            b.counter(2, 1, 3);
            b.clear();
            setOfRows(b);
        }
    }

    private void ruleInPlaceOfAll() {
        for (State state : States.WITHOUT_TILES) {
            TileBench b = state.make();
            b.rule(2, 6, 3, 1);
            b.clear();
            setOfRows(b);
        }
    }

    /** Glues 1 to 4 alone have strength, 1; the temperature is 2; there are seven types, and room for 53 more. */
    private void setOfRows(TileBench b) {
        for (int g = 1; g <= 99; g++) {
            doc.due(b, g <= 4 ? 1 : 0, "glue", g, 0);
        }
        doc.due(b, 2, "temperature", 2);
        for (int type = 8; type <= 60; type++) {
            doc.due(b, type, "tile", 0, 0, 0, 0);
        }
        doc.throwing(b, Calls.UNSUPPORTED, "tile", 0, 0, 0, 0);
    }

    private void counterSeedsOfRowZero() {
        for (int bits = 1; bits <= 20; bits++) {
            for (int start : new int[] {0, 1, 1 << bits - 1, (1 << bits) - 1, 0x5A5A5 & (1 << bits) - 1}) {
                TileBench b = new TileBench();
                b.counter(bits, start, 1);
                for (int i = 0; i < bits; i++) {
                    doc.tile(b, bits - 1 - i, 0, 1 + (start >> i & 1), 0, 0, 1);
                }
                doc.noTile(b, bits, 0);
                doc.due(b, bits, "count", 0);
            }
        }
    }

    private void counterSeedsOfTheColumn() {
        for (int rows : new int[] {1, 2, 3, 39, 40}) {
            for (int bits : new int[] {1, 20}) {
                TileBench b = new TileBench();
                b.counter(bits, 0, rows);
                doc.noTile(b, bits, 0);
                for (int y = 1; y < rows; y++) {
                    doc.tile(b, bits, y, 3, 0, 0, 1);
                }
                for (int y = rows; y < 40; y++) {
                    doc.noTile(b, bits, y);
                }
                doc.done(b, "seed", 39, 0, 1);
            }
        }
    }

    private void counterTypes() {
        typesAre(bench -> bench.counter(1, 0, 1), new int[][] {{1, 0, 0, 0}, {2, 0, 0, 0}, {0, 0, 0, 4},
            {1, 3, 1, 3}, {2, 4, 1, 3}, {2, 3, 2, 3}, {1, 4, 2, 4}});
    }

    /** A type's glue at a side is the one whose tile, with that glue all round, may come there. */
    private void typesAre(Consumer<TileBench> set, int[][] glues) {
        for (int type = 1; type <= 7; type++) {
            TileBench b = State.made(set);
            b.clear();
            b.temperature(1);
            for (int g = 1; g <= 4; g++) {
                b.tile(g, g, g, g);
            }
            int[][] places = {{20, 21}, {21, 20}, {20, 19}, {19, 20}};
            for (int side = 0; side < 4; side++) {
                for (int g = 1; g <= 4; g++) {
                    b.clear();
                    b.seed(20, 20, type);
                    doc.due(b, glues[type - 1][side] == g ? 1 : 0, "attach", places[side][0], places[side][1], 7 + g);
                }
            }
        }
    }

    private void counterOverflows() {
        for (int bits = 1; bits <= 20; bits++) {
            TileBench b = new TileBench();
            b.counter(bits, (1 << bits) - 1, 4);
            doc.due(b, 3 * bits, "grow", 60);
            for (int x = 0; x < bits; x++) {
                doc.due(b, 7, "at", x, 1, 0);
                doc.due(b, x == bits - 1 ? 5 : 4, "at", x, 2, 0);
                doc.due(b, x == bits - 1 ? 7 : x == bits - 2 ? 5 : 4, "at", x, 3, 0);
            }
            doc.noBreach(b);
        }
    }

    private void counterBesideTiles() {
        for (State state : States.WITH_TILES) {
            doc.refused(state, Calls.STATE, "counter", 3, 6, 4);
            doc.refused(state, Calls.STATE, "counter", 0, 6, 4);
            doc.refused(state, Calls.STATE, "counter", 3, 8, 4);
            doc.refused(state, Calls.STATE, "counter", 3, 6, 41);
        }
    }

    private void bitsOutOfBounds() {
        for (State state : States.WITHOUT_TILES) {
            for (int bits : new int[] {0, 21, -1, 31, 32, 33, LEAST, MOST}) {
                doc.refused(state, Calls.ARGUMENT, "counter", bits, 0, 2);
            }
        }
    }

    private void counterRowsOutOfBounds() {
        for (State state : States.WITHOUT_TILES) {
            for (int rows : new int[] {0, 41, -1, LEAST, MOST}) {
                doc.refused(state, Calls.ARGUMENT, "counter", 3, 0, rows);
            }
        }
    }

    private void startOutOfBounds() {
        for (int bits = 1; bits <= 20; bits++) {
            for (int start : new int[] {-1, 1 << bits}) {
                doc.refused(States.SET, Calls.ARGUMENT, "counter", bits, start, 2);
            }
            doc.allowed(States.SET, 7, "counter", bits, 0, 2);
            doc.allowed(States.SET, 7, "counter", bits, (1 << bits) - 1, 2);
        }
        for (State state : States.WITHOUT_TILES) {
            for (int start : new int[] {-1, 8, LEAST, MOST}) {
                doc.refused(state, Calls.ARGUMENT, "counter", 3, start, 2);
            }
        }
    }

    private void ruleHasSevenTypes() {
        int all = (1 << 30) - 1;
        int[][] edges = {{1, 0, 1, 0}, {1, 15, 1, 1}, {1, 15, 40, 0}, {1, 0, 40, 1}, {30, 0, 1, 0}, {30, 15, 1, all},
            {30, 15, 40, 0}, {30, 0, 40, all}};
        for (int[] edge : edges) {
            for (State state : States.WITHOUT_TILES) {
                TileBench b = state.make();
                doc.due(b, 7, "rule", edge[0], edge[1], edge[2], edge[3]);
                doc.due(b, edge[0] + edge[2] - 1, "count", 0);
                doc.due(b, edge[2] - 1, "count", 3);
                doc.due(b, 0, "count", 7);
                doc.throwing(b, Calls.ARGUMENT, "count", 8);
                doc.due(b, edge[0] * (edge[2] - 1), "grow", MOST);
                doc.noBreach(b);
            }
        }
    }

    private void ruleSeedsOfRowZero() {
        for (int width = 1; width <= 30; width++) {
            for (int first : new int[] {0, 1, 1 << width - 1, (1 << width) - 1, 0x25A5A5A5 & (1 << width) - 1}) {
                TileBench b = new TileBench();
                b.rule(width, 6, 1, first);
                doc.noTile(b, 0, 0);
                for (int i = 0; i < width; i++) {
                    doc.tile(b, i + 1, 0, 1 + (first >> i & 1), 0, 0, 1);
                }
                doc.noTile(b, width + 1, 0);
                doc.due(b, width, "count", 0);
            }
        }
    }

    private void ruleSeedsOfTheColumn() {
        for (int rows : new int[] {1, 2, 3, 39, 40}) {
            for (int width : new int[] {1, 30}) {
                TileBench b = new TileBench();
                b.rule(width, 6, rows, 0);
                doc.noTile(b, 0, 0);
                for (int y = 1; y < rows; y++) {
                    doc.tile(b, 0, y, 3, 0, 0, 1);
                }
                for (int y = rows; y < 40; y++) {
                    doc.noTile(b, 0, y);
                }
                doc.done(b, "seed", 39, 0, 1);
            }
        }
    }

    private void ruleTypes() {
        for (int rule = 0; rule <= 15; rule++) {
            int number = rule;
            int[] north = {1 + (rule & 1), 1 + (rule / 2 & 1), 1 + (rule / 4 & 1), 1 + rule / 8};
            typesAre(bench -> bench.rule(1, number, 1, 0), new int[][] {{1, 0, 0, 0}, {2, 0, 0, 0}, {0, 3, 0, 0},
                {north[0], 3, 1, 3}, {north[1], 4, 2, 3}, {north[2], 3, 1, 4}, {north[3], 4, 2, 4}});
        }
    }

    private void ruleBesideTiles() {
        for (State state : States.WITH_TILES) {
            doc.refused(state, Calls.STATE, "rule", 3, 6, 4, 5);
            doc.refused(state, Calls.STATE, "rule", 0, 6, 4, 5);
            doc.refused(state, Calls.STATE, "rule", 3, 16, 4, 5);
            doc.refused(state, Calls.STATE, "rule", 3, 6, 0, 5);
            doc.refused(state, Calls.STATE, "rule", 3, 6, 4, 8);
        }
    }

    private void widthOutOfBounds() {
        for (State state : States.WITHOUT_TILES) {
            for (int width : new int[] {0, 31, -1, 32, 33, 62, LEAST, MOST}) {
                doc.refused(state, Calls.ARGUMENT, "rule", width, 6, 2, 0);
            }
        }
    }

    private void ruleOutOfBounds() {
        for (State state : States.WITHOUT_TILES) {
            for (int rule : new int[] {-1, 16, LEAST, MOST}) {
                doc.refused(state, Calls.ARGUMENT, "rule", 3, rule, 2, 0);
            }
        }
    }

    private void ruleRowsOutOfBounds() {
        for (State state : States.WITHOUT_TILES) {
            for (int rows : new int[] {0, 41, -1, LEAST, MOST}) {
                doc.refused(state, Calls.ARGUMENT, "rule", 3, 6, rows, 0);
            }
        }
    }

    private void firstOutOfBounds() {
        for (int width = 1; width <= 30; width++) {
            for (int first : new int[] {-1, 1 << width}) {
                doc.refused(States.SET, Calls.ARGUMENT, "rule", width, 6, 2, first);
            }
            doc.allowed(States.SET, 7, "rule", width, 6, 2, 0);
            doc.allowed(States.SET, 7, "rule", width, 6, 2, (1 << width) - 1);
        }
        for (State state : States.WITHOUT_TILES) {
            for (int first : new int[] {-1, 8, LEAST, MOST}) {
                doc.refused(state, Calls.ARGUMENT, "rule", 3, 6, 2, first);
            }
        }
    }
}
