/** The states in which the edges are looked for: empty fields and full ones, and what lies between. */
final class States {
    static final State NEW = new State("a new object", b -> { });
    static final State SET = new State("a set without tiles", States::rich);
    static final State SIXTY = new State("sixty types", States::sixty);
    static final State EMPTIED = new State("a field that drop() has emptied", States::emptied);
    static final State CLEARED = new State("a field that clear() has emptied", States::cleared);

    static final State SEEDED = new State("seeds alone", States::seeded);
    static final State CORNER = new State("one seed in the last corner", States::corner);
    static final State GROWN = new State("seeds and what has attached", States::grown);
    static final State LEFT = new State("what has attached, without its seed", States::left);
    static final State COUNTING = new State("a counter that has begun", States::counting);
    static final State FULL = new State("a full field", States::full);

    static final State[] WITHOUT_TILES = {NEW, SET, SIXTY, EMPTIED, CLEARED};
    static final State[] WITH_TILES = {SEEDED, CORNER, GROWN, LEFT, COUNTING, FULL};

    private States() {
    }

    /** Four types: 1 holds 2 in its north by 2 and 3 in its east by 1; 4 fits between 2 and 3, by 1 and 1. */
    static void rich(TileBench b) {
        b.glue(1, 2);
        b.glue(2, 1);
        b.glue(3, 1);
        b.glue(99, 1);
        b.tile(1, 2, 0, 0);
        b.tile(0, 3, 1, 0);
        b.tile(99, 0, 0, 2);
        b.tile(0, 0, 99, 3);
    }

    /** Temperature 1, and one type with glue 5 on all sides. */
    static void spreading(TileBench b) {
        b.temperature(1);
        b.glue(5, 1);
        b.tile(5, 5, 5, 5);
    }

    /** Type 1 holds type 2 in its north by 2. */
    static void pair(TileBench b) {
        b.glue(1, 2);
        b.tile(1, 0, 0, 0);
        b.tile(0, 0, 1, 0);
    }

    private static void sixty(TileBench b) {
        b.temperature(3);
        b.glue(98, 2);
        b.glue(99, 1);
        for (int type = 1; type <= 60; type++) {
            b.tile(type, 98, 99, 99 - type);
        }
    }

    private static void emptied(TileBench b) {
        rich(b);
        b.seed(7, 7, 1);
        b.attach(7, 8, 2);
        b.drop(7, 7);
        b.drop(7, 8);
    }

    private static void cleared(TileBench b) {
        rich(b);
        b.seed(7, 7, 1);
        b.attach(7, 8, 2);
        b.clear();
    }

    private static void seeded(TileBench b) {
        rich(b);
        b.seed(10, 10, 1);
        b.seed(11, 10, 3);
        b.seed(0, 0, 1);
    }

    private static void corner(TileBench b) {
        rich(b);
        b.seed(39, 39, 4);
    }

    private static void grown(TileBench b) {
        seeded(b);
        b.attach(10, 11, 2);
        b.attach(11, 11, 4);
    }

    private static void left(TileBench b) {
        rich(b);
        b.seed(10, 10, 1);
        b.attach(10, 11, 2);
        b.drop(10, 10);
    }

    private static void counting(TileBench b) {
        b.counter(3, 6, 4);
        b.grow(5);
    }

    private static void full(TileBench b) {
        spreading(b);
        b.seed(20, 20, 1);
        b.grow(1599);
    }
}
