/** The edges that 'Terms' names: each sentence with a test of its own. */
public final class TermsEdgesTest {
    private static final int MOST = Integer.MAX_VALUE;
    private static final int LEAST = Integer.MIN_VALUE;
    private static final int[] NO_PLACE = {-1, 40, 41, LEAST, MOST};
    private static final int[] DX = {0, 1, 0, -1};
    private static final int[] DY = {1, 0, -1, 0};

    private final Sentences doc = new Sentences("TermsEdgesTest");

    public static void main(String[] args) {
        TermsEdgesTest test = new TermsEdgesTest();
        test.ofTheObject();
        test.ofTheSet();
        test.ofTheField();
        test.ofAttaching();
        test.ofBreaches();
        test.ofDrawnGrowth();
        test.doc.finish();
    }

    private void ofTheObject() {
        doc.says("An object is used for at most 512 calls after it has been made", this::fiveHundredAndTwelveCalls);
    }

    private void ofTheSet() {
        doc.says("GLUES are 0 .. 99, each with a STRENGTH (0 at first)", this::gluesHoldNothingAtFirst);
        doc.says("a STRENGTH, 0 .. 2", this::strengths);
        doc.says("two of them HOLD by that strength if they are equal", this::equalGluesHold);
        doc.says("glue 0 never", this::glueZeroNeverHolds);
        doc.says("TYPES of tiles are 1, 2, .., at most 60", this::typesOneToSixty);
        doc.says("four sides 0 north, 1 east, 2 south, 3 west; tiles are not turned", this::sidesAreNotTurned);
        doc.says("The TEMPERATURE is 1, 2 or 3 (2 at first)", this::temperatureTwoAtFirst);
    }

    private void ofTheField() {
        doc.says("THE FIELD has the places x and y from 0 to 39", this::places);
        doc.says("IndexOutOfBoundsException: x or y is no place", this::noPlaces);
        doc.says("north of a place is y + 1, east x + 1", this::neighbours);
        doc.says("the field has no places beyond its edges, and does not go round", this::edgesDoNotMeet);
        doc.says("on a full field no side faces the outside", this::fullFieldFacesInward);
    }

    private void ofAttaching() {
        doc.says("hold by as much as the temperature, together", this::heldTogether);
        doc.says("MAY ATTACH at an empty place", this::onlyAtEmptyPlaces);
        doc.says("Seeds are put, whatever holds them", this::seedsWhateverHoldsThem);
        doc.says("INPUTS are the sides that held it (by more than 0)", this::inputsHeldByMoreThanNothing);
        doc.says("when it attached; they stay what they were", this::inputsStay);
        doc.says("a seed has none", this::seedsHaveNoInputs);
        doc.says("OUTPUTS are the sides at which a neighbour has an input that faces it", this::outputs);
        doc.says("Sides are told as bits, 1 north, 2 east, 4 south, 8 west", this::sidesAsBits);
        doc.says("THE FRONTIER is all pairs, by y, then x, then type", this::frontierInOrder);
    }

    private void ofBreaches() {
        doc.says("1 a tile whose inputs held it by more than the temperature", this::heldByMore);
        doc.says("by its own glues at them, whatever stands there now", this::heldByWhatIsGone);
        doc.says("2 another type could attach, if that place were empty", this::anotherType);
        doc.says("and the neighbours at its outputs were not there", this::withoutItsOutputs);
        doc.says("nor those at outputs that are inputs too", this::withoutOutputsThatAreInputs);
        doc.says("a tile that is no seed", this::seedsAreNoBreach);
        doc.says("2 (the least type)", this::leastOtherType);
        doc.says("by y, then x", this::breachesInOrder);
        doc.says("each for 1, then 2", this::oneBeforeTwo);
        doc.says("3 behind all of them (the first of the frontier)", this::threeBehindAll);
    }

    private void ofDrawnGrowth() {
        doc.says("z = 1664525 z + 1013904223 (wrapping)", this::drawsWrap);
        doc.says("(z >>> 8) modulo how many there are", this::drawsOfThree);
        doc.says("a number z goes on for each tile", this::drawsGoOn);
        doc.says("z goes on where there is one pair alone", this::drawsGoOnAtOnePair);
    }

    private static TileBench spreading() {
        return State.made(States::spreading);
    }

    /** 51 rounds of ten calls, each of which answers as in the first one, and two calls more. */
    private void fiveHundredAndTwelveCalls() {
        TileBench b = new TileBench();
        for (int round = 1; round <= 51; round++) {
            doc.due(b, 7, "counter", 20, 1048575, 40);
            doc.due(b, 780, "drawn", MOST, round);
            doc.due(b, 839, "count", 0);
            doc.due(b, 0, "breach", 0);
            doc.due(b, 839, "clear");
            doc.due(b, 7, "rule", 2, 6, 3, 3);
            doc.due(b, 1, "finals", 8);
            doc.due(b, 1, "frontier");
            doc.due(b, 0, "seam");
            doc.done(b, "reset");
        }
        doc.due(b, 1, "tile", 0, 0, 0, 99);
        doc.due(b, 0, "glue", 99, 2);
    }

    private void gluesHoldNothingAtFirst() {
        for (int g : new int[] {1, 2, 50, 98, 99}) {
            TileBench b = new TileBench();
            b.temperature(1);
            b.tile(g, g, g, g);
            b.seed(20, 20, 1);
            doc.due(b, 0, "frontier");
            doc.due(b, 0, "attach", 20, 21, 1);
            b.clear();
            doc.due(b, 0, "glue", g, 1);
            b.seed(20, 20, 1);
            doc.due(b, 4, "frontier");
        }
    }

    private void strengths() {
        for (int strength = 0; strength <= 2; strength++) {
            for (int k = 1; k <= 3; k++) {
                TileBench b = new TileBench();
                b.temperature(k);
                b.glue(7, strength);
                b.tile(7, 7, 7, 7);
                b.seed(20, 20, 1);
                doc.due(b, strength >= k ? 4 : 0, "frontier");
                b.seed(20, 21, 1);
                doc.due(b, strength, "seam");
            }
        }
    }

    private void equalGluesHold() {
        TileBench b = new TileBench();
        b.temperature(1);
        b.glue(98, 2);
        b.glue(99, 2);
        b.tile(98, 98, 98, 98);
        b.tile(99, 99, 99, 99);
        b.tile(0, 0, 0, 0);
        b.seed(20, 20, 1);
        doc.due(b, 4, "frontier");
        doc.due(b, 0, "attach", 20, 21, 2);
        doc.due(b, 0, "attach", 20, 21, 3);
        b.seed(21, 20, 2);
        doc.due(b, 0, "seam");
        doc.due(b, 1, "attach", 20, 21, 1);
        doc.due(b, 1, "attach", 21, 21, 2);
    }

    private void glueZeroNeverHolds() {
        TileBench b = new TileBench();
        b.temperature(1);
        doc.throwing(b, Calls.ARGUMENT, "glue", 0, 2);
        b.glue(1, 2);
        b.tile(0, 0, 0, 0);
        b.tile(1, 0, 0, 0);
        b.tile(0, 0, 1, 0);
        b.seed(20, 20, 1);
        doc.due(b, 0, "frontier");
        doc.due(b, 0, "attach", 20, 21, 1);
        b.seed(20, 21, 1);
        doc.due(b, 0, "seam");
        b.seed(21, 20, 2);
        doc.due(b, 1, "attach", 21, 21, 3);
        doc.tile(b, 21, 21, 3, 4, 0, 0);
    }

    private void typesOneToSixty() {
        TileBench b = new TileBench();
        b.temperature(1);
        b.glue(1, 1);
        for (int type = 1; type <= 60; type++) {
            doc.due(b, type, "tile", 1, 1, 1, 1);
        }
        doc.throwing(b, Calls.UNSUPPORTED, "tile", 1, 1, 1, 1);
        doc.throwing(b, Calls.ARGUMENT, "seed", 20, 20, 0);
        doc.throwing(b, Calls.ARGUMENT, "seed", 20, 20, 61);
        doc.done(b, "seed", 20, 20, 60);
        doc.due(b, 240, "frontier");
        doc.pair(b, 0, 20, 19, 1);
        doc.pair(b, 59, 20, 19, 60);
        doc.pair(b, 239, 20, 21, 60);
        doc.throwing(b, Calls.ARGUMENT, "attach", 20, 21, 0);
        doc.throwing(b, Calls.ARGUMENT, "attach", 20, 21, 61);
        doc.due(b, 1, "attach", 20, 21, 60);
        doc.due(b, 1, "attach", 20, 22, 1);
        doc.due(b, 2, "count", 60);
        doc.due(b, 1, "count", 1);
    }

    private void sidesAreNotTurned() {
        for (int side = 0; side < 4; side++) {
            TileBench b = new TileBench();
            b.glue(7, 2);
            b.tile(side == 0 ? 7 : 0, side == 1 ? 7 : 0, side == 2 ? 7 : 0, side == 3 ? 7 : 0);
            for (int other = 0; other < 4; other++) {
                b.tile(other == 0 ? 7 : 0, other == 1 ? 7 : 0, other == 2 ? 7 : 0, other == 3 ? 7 : 0);
            }
            b.seed(20, 20, 1);
            int facing = (side + 2) % 4;
            doc.due(b, facing == side ? 2 : 1, "frontier");
            doc.pair(b, 0, 20 + DX[side], 20 + DY[side], 2 + facing);
        }
    }

    private void temperatureTwoAtFirst() {
        TileBench b = new TileBench();
        b.glue(1, 1);
        b.glue(2, 2);
        b.tile(1, 2, 1, 2);
        b.seed(20, 20, 1);
        doc.due(b, 0, "attach", 20, 21, 1);
        doc.due(b, 1, "attach", 21, 20, 1);
        b.clear();
        doc.due(b, 2, "temperature", 3);
        b.seed(20, 20, 1);
        doc.due(b, 0, "frontier");
        b.clear();
        doc.due(b, 3, "temperature", 1);
        b.seed(20, 20, 1);
        doc.due(b, 4, "frontier");
        b.clear();
        doc.due(b, 1, "temperature", 2);
    }

    private void places() {
        for (int x : new int[] {0, 1, 38, 39}) {
            for (int y : new int[] {0, 1, 38, 39}) {
                TileBench b = spreading();
                doc.due(b, 0, "at", x, y, 0);
                doc.due(b, 0, "drop", x, y);
                doc.due(b, 0, "attach", x, y, 1);
                doc.done(b, "seed", x, y, 1);
                doc.tile(b, x, y, 1, 0, 0, 1);
                b.grow(1);
                doc.due(b, 1, "drop", x, y);
                doc.due(b, 1, "attach", x, y, 1);
            }
        }
    }

    private void noPlaces() {
        for (int bad : NO_PLACE) {
            for (int good : new int[] {0, 39}) {
                doc.refused(States.SEEDED, Calls.INDEX, "seed", bad, good, 1);
                doc.refused(States.SEEDED, Calls.INDEX, "seed", good, bad, 1);
                doc.refused(States.GROWN, Calls.INDEX, "attach", bad, good, 1);
                doc.refused(States.GROWN, Calls.INDEX, "attach", good, bad, 1);
                doc.refused(States.GROWN, Calls.INDEX, "drop", bad, good);
                doc.refused(States.GROWN, Calls.INDEX, "drop", good, bad);
                doc.refused(States.GROWN, Calls.INDEX, "at", bad, good, 0);
                doc.refused(States.GROWN, Calls.INDEX, "at", good, bad, 0);
            }
        }
    }

    private void neighbours() {
        for (int side = 0; side < 4; side++) {
            TileBench b = spreading();
            b.seed(20, 20, 1);
            doc.due(b, 1, "attach", 20 + DX[side], 20 + DY[side], 1);
            doc.due(b, 1 << side, "at", 20, 20, 2);
            doc.due(b, 1 << (side + 2) % 4, "at", 20 + DX[side], 20 + DY[side], 1);
        }
        TileBench b = spreading();
        b.seed(20, 20, 1);
        doc.due(b, 0, "attach", 21, 21, 1);
        doc.due(b, 0, "attach", 20, 22, 1);
    }

    private void edgesDoNotMeet() {
        roundTheEdge(39, 5, 3, new int[][] {{0, 5}, {0, 6}, {0, 4}});
        roundTheEdge(0, 5, 3, new int[][] {{39, 5}, {39, 4}, {39, 6}});
        roundTheEdge(5, 39, 3, new int[][] {{5, 0}, {6, 0}, {4, 0}});
        roundTheEdge(5, 0, 3, new int[][] {{5, 39}, {4, 39}, {6, 39}});
        roundTheEdge(0, 0, 2, new int[][] {{39, 0}, {0, 39}, {39, 39}});
        roundTheEdge(39, 0, 2, new int[][] {{0, 0}, {0, 1}, {39, 39}});
        roundTheEdge(0, 39, 2, new int[][] {{39, 39}, {39, 38}, {0, 0}});
        roundTheEdge(39, 39, 2, new int[][] {{0, 39}, {39, 0}, {0, 0}});
    }

    private void roundTheEdge(int x, int y, int open, int[][] far) {
        for (int[] place : far) {
            TileBench b = spreading();
            b.seed(x, y, 1);
            doc.due(b, open, "frontier");
            doc.due(b, 0, "attach", place[0], place[1], 1);
            b.seed(place[0], place[1], 1);
            doc.due(b, 0, "seam");
            doc.due(b, 0, "at", x, y, 2);
        }
    }

    /** Where nothing was dropped, each side that faces a tile is an input or an output, and no other side is. */
    private void fullFieldFacesInward() {
        TileBench[] benches = {States.FULL.make(), States.FULL.make(), States.FULL.make(), States.FULL.make()};
        for (int i = 0; i < 40; i++) {
            int[][] places = {{i, 39}, {39, i}, {i, 0}, {0, i}};
            for (int side = 0; side < 4; side++) {
                TileBench b = benches[side];
                int x = places[side][0];
                int y = places[side][1];
                int outside = (y == 39 ? 1 : 0) | (x == 39 ? 2 : 0) | (y == 0 ? 4 : 0) | (x == 0 ? 8 : 0);
                doc.due(b, 15 - outside - b.at(x, y, 2), "at", x, y, 1);
                doc.due(b, 15 - outside - b.at(x, y, 1), "at", x, y, 2);
            }
        }
    }

    /** A tile in the middle of four others, with a glue of its own to each of them. */
    private static TileBench amongFour(int k, int[] strengths) {
        TileBench b = new TileBench();
        b.temperature(k);
        for (int side = 0; side < 4; side++) {
            b.glue(1 + side, strengths[side]);
        }
        b.tile(1, 2, 3, 4);
        b.tile(0, 0, 1, 0);
        b.tile(0, 0, 0, 2);
        b.tile(3, 0, 0, 0);
        b.tile(0, 4, 0, 0);
        for (int side = 0; side < 4; side++) {
            b.seed(20 + DX[side], 20 + DY[side], 2 + side);
        }
        return b;
    }

    private void heldTogether() {
        for (int k = 1; k <= 3; k++) {
            for (int code = 0; code < 81; code++) {
                int[] strengths = {code % 3, code / 3 % 3, code / 9 % 3, code / 27};
                int sum = strengths[0] + strengths[1] + strengths[2] + strengths[3];
                TileBench b = amongFour(k, strengths);
                doc.due(b, sum >= k ? 1 : 0, "frontier");
                doc.due(b, sum >= k ? 1 : 0, "attach", 20, 20, 1);
                doc.due(b, sum >= k ? 1 : 0, "at", 20, 20, 0);
            }
        }
    }

    private void onlyAtEmptyPlaces() {
        TileBench b = spreading();
        b.seed(20, 20, 1);
        b.seed(20, 21, 1);
        doc.due(b, 0, "attach", 20, 21, 1);
        doc.tile(b, 20, 21, 1, 0, 0, 1);
        doc.due(b, 1, "attach", 21, 20, 1);
        doc.due(b, 0, "attach", 21, 20, 1);
        doc.due(b, 1, "attach", 21, 21, 1);
        doc.due(b, 0, "attach", 21, 20, 1);
        doc.tile(b, 21, 20, 1, 8, 1, 0);
        b.drop(21, 20);
        doc.due(b, 1, "attach", 21, 20, 1);
        doc.told(States.FULL, 0, "attach", 20, 20, 1);
        doc.told(States.FULL, 0, "attach", 0, 0, 1);
        doc.told(States.FULL, 0, "attach", 39, 39, 1);
        doc.told(States.FULL, 0, "frontier");
    }

    private void seedsWhateverHoldsThem() {
        TileBench b = State.made(States::rich);
        doc.done(b, "seed", 20, 20, 1);
        doc.done(b, "seed", 20, 21, 1);
        doc.done(b, "seed", 21, 20, 3);
        doc.done(b, "seed", 20, 19, 2);
        doc.done(b, "seed", 30, 20, 1);
        doc.done(b, "seed", 30, 21, 2);
        doc.tile(b, 30, 21, 2, 0, 0, 1);
        doc.tile(b, 21, 20, 3, 0, 0, 1);
        doc.due(b, 6, "count", 0);
    }

    private void inputsHeldByMoreThanNothing() {
        for (int k = 1; k <= 3; k++) {
            for (int code = 0; code < 81; code++) {
                int[] strengths = {code % 3, code / 3 % 3, code / 9 % 3, code / 27};
                int sum = 0;
                int inputs = 0;
                for (int side = 0; side < 4; side++) {
                    sum += strengths[side];
                    inputs |= strengths[side] > 0 ? 1 << side : 0;
                }
                if (sum < k) {
                    continue;
                }
                TileBench b = amongFour(k, strengths);
                b.grow(1);
                doc.tile(b, 20, 20, 1, inputs, 0, 0);
            }
        }
        TileBench b = new TileBench();
        b.glue(1, 2);
        b.glue(2, 2);
        b.glue(3, 2);
        b.tile(1, 2, 0, 0);
        b.tile(0, 0, 1, 3);
        b.seed(20, 20, 1);
        b.seed(19, 21, 1);
        b.attach(20, 21, 2);
        doc.tile(b, 20, 21, 2, 4, 0, 0);
    }

    private void inputsStay() {
        TileBench b = spreading();
        b.seed(20, 20, 1);
        b.attach(20, 21, 1);
        doc.tile(b, 20, 21, 1, 4, 0, 0);
        b.attach(20, 22, 1);
        b.attach(21, 21, 1);
        b.attach(19, 21, 1);
        doc.tile(b, 20, 21, 1, 4, 11, 0);
        b.drop(20, 20);
        doc.tile(b, 20, 21, 1, 4, 11, 0);
        b.drop(20, 22);
        b.drop(21, 21);
        b.drop(19, 21);
        doc.tile(b, 20, 21, 1, 4, 0, 0);
    }

    private void seedsHaveNoInputs() {
        TileBench b = spreading();
        b.seed(20, 20, 1);
        b.seed(20, 21, 1);
        b.seed(21, 20, 1);
        b.seed(20, 19, 1);
        b.seed(19, 20, 1);
        doc.tile(b, 20, 20, 1, 0, 0, 1);
        b.attach(21, 21, 1);
        b.attach(19, 21, 1);
        b.attach(20, 22, 1);
        doc.tile(b, 20, 21, 1, 0, 11, 1);
        b.drop(20, 21);
        b.attach(20, 21, 1);
        doc.tile(b, 20, 21, 1, 15, 11, 0);
        doc.tile(b, 20, 20, 1, 0, 1, 1);
    }

    private void outputs() {
        TileBench b = spreading();
        b.seed(20, 20, 1);
        doc.due(b, 0, "at", 20, 20, 2);
        b.seed(21, 20, 1);
        doc.due(b, 0, "at", 20, 20, 2);
        b.attach(20, 21, 1);
        doc.due(b, 1, "at", 20, 20, 2);
        doc.due(b, 0, "at", 20, 21, 2);
        b.attach(21, 21, 1);
        doc.tile(b, 21, 21, 1, 12, 0, 0);
        doc.due(b, 1, "at", 20, 20, 2);
        doc.due(b, 1, "at", 21, 20, 2);
        doc.due(b, 2, "at", 20, 21, 2);
        b.drop(20, 21);
        doc.due(b, 0, "at", 20, 20, 2);
        doc.due(b, -1, "at", 20, 21, 2);
        b.attach(20, 21, 1);
        doc.tile(b, 20, 21, 1, 6, 2, 0);
        doc.tile(b, 21, 21, 1, 12, 8, 0);
    }

    private void sidesAsBits() {
        int[] bits = {1, 2, 4, 8};
        for (int side = 0; side < 4; side++) {
            int[] strengths = {0, 0, 0, 0};
            strengths[side] = 2;
            TileBench b = amongFour(2, strengths);
            b.grow(1);
            doc.due(b, bits[side], "at", 20, 20, 1);
            doc.due(b, bits[(side + 2) % 4], "at", 20 + DX[side], 20 + DY[side], 2);
        }
        TileBench b = amongFour(3, new int[] {1, 1, 1, 1});
        b.grow(1);
        doc.tile(b, 20, 20, 1, 15, 0, 0);
        TileBench hub = spreading();
        hub.seed(20, 20, 1);
        for (int side = 0; side < 4; side++) {
            hub.attach(20 + DX[side], 20 + DY[side], 1);
        }
        doc.tile(hub, 20, 20, 1, 0, 15, 1);
    }

    private void frontierInOrder() {
        TileBench b = new TileBench();
        b.temperature(1);
        b.glue(1, 1);
        b.tile(1, 1, 1, 1);
        b.tile(0, 1, 1, 0);
        b.seed(30, 10, 1);
        b.seed(3, 11, 1);
        int[][] pairs = {{30, 9, 1}, {3, 10, 1}, {29, 10, 1}, {29, 10, 2}, {31, 10, 1}, {2, 11, 1}, {2, 11, 2},
            {4, 11, 1}, {30, 11, 1}, {30, 11, 2}, {3, 12, 1}, {3, 12, 2}};
        doc.due(b, pairs.length, "frontier");
        for (int i = 0; i < pairs.length; i++) {
            doc.pair(b, i, pairs[i][0], pairs[i][1], pairs[i][2]);
        }
    }

    private void heldByMore() {
        for (int k = 1; k <= 3; k++) {
            for (int code = 0; code < 81; code++) {
                int[] strengths = {code % 3, code / 3 % 3, code / 9 % 3, code / 27};
                int sum = strengths[0] + strengths[1] + strengths[2] + strengths[3];
                TileBench b = amongFour(k, strengths);
                b.grow(1);
                if (sum > k) {
                    doc.breach(b, 1, 20, 20, 1);
                } else {
                    doc.noBreach(b);
                }
            }
        }
    }

    private void heldByWhatIsGone() {
        TileBench more = amongFour(2, new int[] {1, 1, 1, 0});
        more.grow(1);
        more.drop(20, 21);
        more.drop(21, 20);
        doc.breach(more, 1, 20, 20, 1);
        more.drop(20, 19);
        more.drop(19, 20);
        doc.breach(more, 1, 20, 20, 1);
        TileBench exact = amongFour(2, new int[] {1, 1, 0, 0});
        exact.grow(1);
        exact.drop(20, 21);
        doc.noBreach(exact);
        exact.drop(21, 20);
        doc.noBreach(exact);
    }

    private void anotherType() {
        TileBench b = State.made(States::pair);
        b.seed(20, 20, 1);
        b.grow(1);
        doc.noBreach(b);
        b.clear();
        b.tile(0, 0, 1, 0);
        b.seed(20, 20, 1);
        b.attach(20, 21, 2);
        doc.breach(b, 2, 20, 21, 3);
        b.drop(20, 21);
        b.attach(20, 21, 3);
        doc.breach(b, 2, 20, 21, 2);
        b.clear();
        b.glue(2, 1);
        b.tile(0, 0, 2, 0);
        b.tile(2, 0, 0, 0);
        b.tile(0, 2, 0, 0);
        b.seed(20, 20, 5);
        b.seed(19, 21, 6);
        doc.noBreach(b);
    }

    /** Type 3 fits only where the neighbour that stands there by this tile's help were there already. */
    private void withoutItsOutputs() {
        TileBench b = new TileBench();
        b.temperature(1);
        b.glue(1, 1);
        b.glue(2, 1);
        b.tile(1, 0, 0, 0);
        b.tile(2, 0, 1, 0);
        b.tile(2, 0, 0, 0);
        b.tile(0, 0, 2, 0);
        b.seed(20, 20, 1);
        b.attach(20, 21, 2);
        b.attach(20, 22, 4);
        doc.tile(b, 20, 21, 2, 4, 1, 0);
        doc.noBreach(b);
        b.clear();
        b.seed(20, 20, 1);
        b.seed(20, 22, 4);
        b.attach(20, 21, 3);
        doc.tile(b, 20, 21, 3, 1, 0, 0);
        doc.breach(b, 2, 20, 21, 2);
    }

    /** Type 3 came to a tile that had come to the place where it is now: each has the other one as an output. */
    private void withoutOutputsThatAreInputs() {
        TileBench b = State.made(States::pair);
        b.tile(1, 0, 0, 0);
        b.seed(20, 20, 1);
        b.attach(20, 21, 2);
        b.drop(20, 20);
        doc.breach(b, 3, 20, 20, 1);
        b.attach(20, 20, 3);
        doc.tile(b, 20, 20, 3, 1, 1, 0);
        doc.tile(b, 20, 21, 2, 4, 4, 0);
        doc.noBreach(b);
        b.clear();
        b.seed(20, 21, 2);
        b.attach(20, 20, 3);
        doc.tile(b, 20, 20, 3, 1, 0, 0);
        doc.breach(b, 2, 20, 20, 1);
    }

    private void seedsAreNoBreach() {
        TileBench b = State.made(States::pair);
        b.tile(0, 0, 1, 0);
        b.seed(20, 20, 1);
        b.seed(20, 21, 2);
        doc.noBreach(b);
        TileBench more = new TileBench();
        more.temperature(1);
        more.glue(1, 2);
        more.tile(1, 0, 0, 0);
        more.tile(0, 0, 1, 0);
        more.seed(20, 20, 1);
        more.seed(20, 21, 2);
        doc.noBreach(more);
        more.drop(20, 21);
        more.attach(20, 21, 2);
        doc.breach(more, 1, 20, 21, 2);
    }

    private void leastOtherType() {
        TileBench b = State.made(States::pair);
        b.tile(0, 0, 1, 0);
        b.tile(0, 0, 1, 0);
        int[] least = {3, 2, 2};
        for (int type = 2; type <= 4; type++) {
            b.seed(20, 20, 1);
            b.attach(20, 21, type);
            doc.breach(b, 2, 20, 21, least[type - 2]);
            b.clear();
        }
        b.reset();
        b.glue(1, 2);
        b.tile(1, 0, 0, 0);
        for (int type = 2; type <= 58; type++) {
            b.tile(0, 0, 0, 0);
        }
        b.tile(0, 0, 1, 0);
        b.tile(0, 0, 1, 0);
        b.seed(20, 20, 1);
        b.attach(20, 21, 59);
        doc.breach(b, 2, 20, 21, 60);
    }

    /** Above a seed of type 1 comes 2, held by too much; beside it and above type 5 come 3 or 4, as it happens. */
    private static TileBench faulty() {
        TileBench b = new TileBench();
        b.temperature(1);
        b.glue(1, 2);
        b.glue(2, 1);
        b.tile(1, 2, 0, 0);
        b.tile(0, 0, 1, 0);
        b.tile(0, 0, 2, 2);
        b.tile(0, 0, 2, 2);
        b.tile(2, 0, 0, 0);
        return b;
    }

    private void breachesInOrder() {
        TileBench b = faulty();
        b.seed(20, 20, 1);
        b.attach(20, 21, 2);
        doc.breach(b, 1, 20, 21, 2);
        b.attach(21, 20, 3);
        doc.breach(b, 2, 21, 20, 4);
        b.clear();
        b.seed(10, 20, 1);
        b.seed(30, 20, 5);
        b.attach(30, 21, 4);
        doc.breach(b, 2, 30, 21, 3);
        b.attach(10, 21, 2);
        doc.breach(b, 1, 10, 21, 2);
        b.clear();
        b.seed(10, 20, 5);
        b.seed(30, 20, 1);
        b.attach(30, 21, 2);
        b.attach(10, 21, 4);
        doc.breach(b, 2, 10, 21, 3);
        b.clear();
        b.seed(0, 38, 1);
        b.attach(0, 39, 2);
        doc.breach(b, 1, 0, 39, 2);
        b.clear();
        b.seed(39, 38, 1);
        b.attach(39, 39, 2);
        doc.breach(b, 1, 39, 39, 2);
    }

    private void oneBeforeTwo() {
        TileBench b = faulty();
        b.tile(0, 0, 1, 0);
        b.seed(20, 20, 1);
        b.attach(20, 21, 6);
        doc.breach(b, 1, 20, 21, 6);
    }

    private void threeBehindAll() {
        TileBench b = faulty();
        b.seed(0, 0, 5);
        doc.breach(b, 3, 0, 1, 3);
        b.seed(39, 37, 1);
        doc.breach(b, 3, 0, 1, 3);
        b.attach(39, 38, 2);
        doc.breach(b, 1, 39, 38, 2);
        b.drop(39, 38);
        b.attach(0, 1, 4);
        doc.breach(b, 2, 0, 1, 3);
        b.drop(0, 1);
        b.drop(0, 0);
        doc.breach(b, 3, 39, 38, 2);
        b.drop(39, 37);
        doc.noBreach(b);
    }

    /** The first four tiles beside a seed at x = 0, y = 20, told by hand for the least and greatest z. */
    private void drawsWrap() {
        int[] z = {0, 1, -1, LEAST, MOST};
        int[][] places = {
            {0, 21, 1, 20, 0, 22, 1, 19},
            {0, 19, 1, 19, 2, 19, 3, 19},
            {1, 20, 0, 19, 1, 19, 1, 21},
            {1, 20, 0, 19, 1, 19, 1, 21},
            {0, 19, 0, 18, 0, 21, 1, 20}};
        for (int i = 0; i < z.length; i++) {
            TileBench b = spreading();
            b.seed(0, 20, 1);
            doc.due(b, 4, "drawn", 4, z[i]);
            for (int tile = 0; tile < 4; tile++) {
                doc.due(b, 1, "at", places[i][2 * tile], places[i][2 * tile + 1], 0);
            }
            doc.due(b, 5, "count", 0);
        }
    }

    /** Where z has gone on to a number below 0, its upper 24 bits count as they are, without a sign. */
    private void drawsOfThree() {
        int[] z = {0, 1, -1, LEAST, MOST, 1000000007, -1000000007};
        int[] pair = {2, 0, 1, 1, 0, 2, 0};
        int[][] places = {{0, 19}, {1, 20}, {0, 21}};
        for (int i = 0; i < z.length; i++) {
            TileBench b = spreading();
            b.seed(0, 20, 1);
            doc.due(b, 1, "drawn", 1, z[i]);
            doc.due(b, 1, "at", places[pair[i]][0], places[pair[i]][1], 0);
            doc.due(b, 2, "count", 0);
        }
    }

    private void drawsGoOn() {
        TileBench each = spreading();
        each.seed(20, 20, 1);
        int z = LEAST;
        for (int i = 0; i < 40; i++) {
            int next = 1664525 * z + 1013904223;
            int pair = (next >>> 8) % each.frontier();
            int x = each.front(pair, 0);
            int y = each.front(pair, 1);
            each.drawn(1, z);
            doc.due(each, 1, "at", x, y, 0);
            z = next;
        }
        TileBench once = spreading();
        once.seed(20, 20, 1);
        doc.due(once, 40, "drawn", 40, LEAST);
        for (int place = 0; place < 256; place++) {
            int x = 12 + place % 16;
            int y = 12 + place / 16;
            doc.due(once, each.at(x, y, 0), "at", x, y, 0);
        }
    }

    /** The first tile is certain; the second one's type is told by z after two steps. */
    private void drawsGoOnAtOnePair() {
        int[] z = {0, 1, -1, LEAST, MOST, 1000000007, -1000000007};
        int[] second = {0, 0, 2, 2, 1, 0, 2};
        for (int i = 0; i < z.length; i++) {
            TileBench b = new TileBench();
            b.temperature(1);
            b.glue(1, 1);
            b.glue(2, 1);
            b.tile(0, 1, 0, 0);
            b.tile(0, 2, 0, 1);
            b.tile(0, 0, 0, 2);
            b.tile(0, 0, 0, 2);
            b.tile(0, 0, 0, 2);
            b.seed(20, 20, 1);
            doc.due(b, 1, "frontier");
            doc.due(b, 2, "drawn", 9, z[i]);
            doc.due(b, 3 + second[i], "at", 22, 20, 0);
        }
    }
}
