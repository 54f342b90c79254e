import java.util.Arrays;

/**
 * A bench for tiles that put themselves together by glues: which may come where, growth in order or
 * drawn, who held whom, whether what grew could have grown otherwise, all that can become of seeds,
 * the weakest seam; and sets of tiles that count, or run a rule of rows.
 */
public final class TileBench {
    public static final int NONE = -1;

    private static final int WIDTH = 40;
    // The field lies inside a wall one place thick, so that every place has four neighbours.
    private static final int ROW = 42;
    private static final int PLACES = ROW * ROW;
    private static final int GLUES = 100;
    private static final int MOST_STRENGTH = 2;
    private static final int MOST_TYPES = 60;
    private static final int FIRST_TEMPERATURE = 2;
    private static final int MOST_TEMPERATURE = 3;
    private static final int MOST_LIMIT = 30;
    private static final int MOST_FIELDS = 500;
    private static final int MOST_SEAM_TILES = 120;
    private static final int MOST_BITS = 20;
    private static final int MOST_CELLS = 30;
    private static final int MOST_RULE = 15;

    private static final int SIDES = 4;
    private static final int NORTH = 0;
    private static final int EAST = 1;
    private static final int SOUTH = 2;
    private static final int WEST = 3;
    private static final int ALL_SIDES = 15;
    // From a place to its neighbour at each side (a ROW is 42), and at last to the place itself.
    private static final int[] STEPS = {42, 1, -42, -1, 0};

    // A place and a type in one number, so that a pair can be answered without an object.
    private static final int PAIR_BITS = 6;
    private static final int TYPE_MASK = (1 << PAIR_BITS) - 1;

    // What a place holds: a tile's type with its inputs above it and a seed's mark, 0, or the wall.
    private static final int SEED = 1 << 10;
    private static final int WALL = 1 << 11;

    private static final int NO_BREACH = 0;
    private static final int BREACH_BITS = 2;
    private static final int BREACH_MASK = (1 << BREACH_BITS) - 1;

    private final TileSet set;
    private final Field field;
    private final Outcomes outcomes;
    private final Seams seams;

    public TileBench() {
        set = new TileSet();
        field = new Field(set);
        outcomes = new Outcomes(new Field(set));
        seams = new Seams();
    }

    public int glue(int g, int strength) throws IllegalStateException, IllegalArgumentException {
        needEmptyField();
        needWithin(g, 1, GLUES - 1);
        needWithin(strength, 0, MOST_STRENGTH);
        return set.strengthen(g, strength);
    }

    public int tile(int north, int east, int south, int west)
            throws IllegalStateException, IllegalArgumentException, UnsupportedOperationException {
        needEmptyField();
        needWithin(north, 0, GLUES - 1);
        needWithin(east, 0, GLUES - 1);
        needWithin(south, 0, GLUES - 1);
        needWithin(west, 0, GLUES - 1);
        if (set.types() >= MOST_TYPES) {
            throw new UnsupportedOperationException("there are 60 types");
        }
        return set.addType(north, east, south, west);
    }

    public int temperature(int k) throws IllegalStateException, IllegalArgumentException {
        needEmptyField();
        needWithin(k, 1, MOST_TEMPERATURE);
        return set.warm(k);
    }

    public void seed(int x, int y, int type)
            throws IndexOutOfBoundsException, IllegalArgumentException, IllegalStateException {
        needPlace(x, y);
        needType(type);
        int place = placeOf(x, y);
        if (field.typeAt(place) != 0 || field.hasAttached()) {
            throw new IllegalStateException("a tile is there, or one has attached");
        }
        field.put(place, seedOf(type));
    }

    public int clear() {
        int had = field.tiles(0);
        field.wipe();
        return had;
    }

    public void reset() {
        field.wipe();
        set.restart(0);
    }

    public boolean attach(int x, int y, int type)
            throws IndexOutOfBoundsException, IllegalArgumentException {
        needPlace(x, y);
        needType(type);
        int place = placeOf(x, y);
        if (!has(field.openAt(place), type)) {
            return false;
        }
        field.join(place, type);
        return true;
    }

    public int grow(int n) throws IllegalArgumentException {
        needWithin(n, 0, Integer.MAX_VALUE);
        int most = Math.min(n, PLACES);
        int done = 0;
        while (done < most && field.pairs() > 0) {
            joinPair(0);
            done++;
        }
        return done;
    }

    public int drawn(int n, int z) throws IllegalArgumentException {
        needWithin(n, 0, Integer.MAX_VALUE);
        int most = Math.min(n, PLACES);
        int done = 0;
        int draw = z;
        while (done < most && field.pairs() > 0) {
            draw = 1664525 * draw + 1013904223;
            joinPair((draw >>> 8) % field.pairs());
            done++;
        }
        return done;
    }

    public int drop(int x, int y) throws IndexOutOfBoundsException {
        needPlace(x, y);
        int place = placeOf(x, y);
        int type = field.typeAt(place);
        if (type != 0) {
            field.take(place);
        }
        return type;
    }

    public int frontier() {
        return field.pairs();
    }

    public int front(int i, int what) throws IndexOutOfBoundsException, IllegalArgumentException {
        if (i < 0 || i >= field.pairs()) {
            throw new IndexOutOfBoundsException("the frontier has no such pair");
        }
        needWithin(what, 0, 2);
        return partOf(field.pairNumber(i), what);
    }

    public int at(int x, int y, int what) throws IndexOutOfBoundsException, IllegalArgumentException {
        needPlace(x, y);
        needWithin(what, 0, 3);
        int place = placeOf(x, y);
        int type = field.typeAt(place);
        if (what == 0) {
            return type;
        }
        if (type == 0) {
            return NONE;
        }
        switch (what) {
            case 1:
                return field.inputsAt(place);
            case 2:
                return field.outputsAt(place);
            default:
                return field.isSeed(place) ? 1 : 0;
        }
    }

    public int count(int type) throws IllegalArgumentException {
        needWithin(type, 0, set.types());
        return field.tiles(type);
    }

    public int breach(int what) throws IllegalArgumentException {
        needWithin(what, 0, 3);
        int found = field.firstBreach();
        if (what == 0) {
            return found & BREACH_MASK;
        }
        if (found == NO_BREACH) {
            return NONE;
        }
        return partOf(found >> BREACH_BITS, what - 1);
    }

    public int finals(int limit) throws IllegalStateException, IllegalArgumentException {
        if (field.seeds() == 0) {
            throw new IllegalStateException("there are no seeds");
        }
        needWithin(limit, 1, MOST_LIMIT);
        return outcomes.number(field, limit);
    }

    public int seam() throws IllegalStateException, UnsupportedOperationException {
        int tiles = field.tiles(0);
        if (tiles < 2) {
            throw new IllegalStateException("there are less than two tiles");
        }
        if (tiles > MOST_SEAM_TILES) {
            throw new UnsupportedOperationException("there are more than 120 tiles");
        }
        return seams.weakest(field);
    }

    public int counter(int bits, int start, int rows)
            throws IllegalStateException, IllegalArgumentException {
        needEmptyField();
        needWithin(bits, 1, MOST_BITS);
        needWithin(rows, 1, WIDTH);
        needWithin(start, 0, (1 << bits) - 1);
        set.beginRows(0, 4);
        for (int b = 0; b <= 1; b++) {
            for (int c = 0; c <= 1; c++) {
                set.addType(1 + (b + c) % 2, 3 + c, 1 + b, 3 + b * c);
            }
        }
        for (int i = 0; i < bits; i++) {
            field.put(placeOf(bits - 1 - i, 0), seedOf(1 + (start >> i & 1)));
        }
        plantColumn(bits, rows);
        return set.types();
    }

    public int rule(int width, int rule, int rows, int first)
            throws IllegalStateException, IllegalArgumentException {
        needEmptyField();
        needWithin(width, 1, MOST_CELLS);
        needWithin(rule, 0, MOST_RULE);
        needWithin(rows, 1, WIDTH);
        needWithin(first, 0, (1 << width) - 1);
        set.beginRows(3, 0);
        for (int a = 0; a <= 1; a++) {
            for (int b = 0; b <= 1; b++) {
                set.addType(1 + (rule >> 2 * a + b & 1), 3 + b, 1 + b, 3 + a);
            }
        }
        for (int i = 0; i < width; i++) {
            field.put(placeOf(i + 1, 0), seedOf(1 + (first >> i & 1)));
        }
        plantColumn(0, rows);
        return set.types();
    }

    private void plantColumn(int x, int rows) {
        for (int y = 1; y < rows; y++) {
            field.put(placeOf(x, y), seedOf(3));
        }
    }

    private void joinPair(int i) {
        int pair = field.pairNumber(i);
        field.join(placeIn(pair), typeIn(pair));
    }

    private void needEmptyField() {
        if (field.tiles(0) > 0) {
            throw new IllegalStateException("there are tiles on the field");
        }
    }

    private void needType(int type) {
        if (type < 1 || type > set.types()) {
            throw new IllegalArgumentException("there is no such type");
        }
    }

    private static void needPlace(int x, int y) {
        if (x < 0 || x >= WIDTH || y < 0 || y >= WIDTH) {
            throw new IndexOutOfBoundsException("x or y is no place");
        }
    }

    private static void needWithin(int number, int least, int most) {
        if (number < least || number > most) {
            throw new IllegalArgumentException("a number is not as it may be");
        }
    }

    private static int placeOf(int x, int y) {
        return (y + 1) * ROW + x + 1;
    }

    private static int xOf(int place) {
        return place % ROW - 1;
    }

    private static int yOf(int place) {
        return place / ROW - 1;
    }

    private static int pairOf(int place, int type) {
        return place << PAIR_BITS | type;
    }

    private static int placeIn(int pair) {
        return pair >> PAIR_BITS;
    }

    private static int typeIn(int pair) {
        return pair & TYPE_MASK;
    }

    private static int opposite(int side) {
        return side ^ 2;
    }

    /** A pair's x (0), y (1) or type (2). */
    private static int partOf(int pair, int what) {
        switch (what) {
            case 0:
                return xOf(placeIn(pair));
            case 1:
                return yOf(placeIn(pair));
            default:
                return typeIn(pair);
        }
    }

    /** A seed as the field keeps it: its type, no inputs, and the mark. */
    private static int seedOf(int type) {
        return type | SEED;
    }

    /** Sets of types are longs: type t is bit t - 1, as there are at most 60 of them. */
    private static long only(int type) {
        return 1L << type - 1;
    }

    private static boolean has(long types, int type) {
        return (types & only(type)) != 0;
    }

    private static int least(long types) {
        return Long.bitCount((types & -types) - 1) + 1;
    }

    /** The glues, the types made of them, and the temperature. */
    private static final class TileSet {
        private final int[] strengths = new int[GLUES];
        // Type 0 stands for no tile: its sides stay glue 0, which never holds.
        private final int[] sides = new int[(MOST_TYPES + 1) * SIDES];
        private final long[] bearers = new long[GLUES * SIDES];
        private int types = 0;
        private int warmth = FIRST_TEMPERATURE;

        int types() {
            return types;
        }

        int warmth() {
            return warmth;
        }

        int strengthOf(int glue) {
            return strengths[glue];
        }

        int glueAt(int type, int side) {
            return sides[type * SIDES + side];
        }

        /** The types that have a glue at a side. */
        long bearersOf(int glue, int side) {
            return bearers[glue * SIDES + side];
        }

        int strengthen(int glue, int strength) {
            int was = strengths[glue];
            strengths[glue] = strength;
            return was;
        }

        int warm(int to) {
            int was = warmth;
            warmth = to;
            return was;
        }

        int addType(int north, int east, int south, int west) {
            types++;
            putSide(NORTH, north);
            putSide(EAST, east);
            putSide(SOUTH, south);
            putSide(WEST, west);
            return types;
        }

        private void putSide(int side, int glue) {
            sides[types * SIDES + side] = glue;
            bearers[glue * SIDES + side] |= only(types);
        }

        /** No types, the temperature of the start, and only the glues 1 .. strong with strength, 1. */
        void restart(int strong) {
            Arrays.fill(bearers, 0L);
            Arrays.fill(strengths, 0);
            for (int glue = 1; glue <= strong; glue++) {
                strengths[glue] = 1;
            }
            types = 0;
            warmth = FIRST_TEMPERATURE;
        }

        /** What the counting set and the rule's set have in common: their glues and seed types. */
        void beginRows(int edgeEast, int edgeWest) {
            restart(4);
            addType(1, 0, 0, 0);
            addType(2, 0, 0, 0);
            addType(0, edgeEast, 0, edgeWest);
        }
    }

    /** The places with their tiles, and the frontier, kept up to date tile by tile. */
    private static final class Field {
        private final TileSet set;
        private final int[] cells = new int[PLACES];
        // The types that may attach at a place.
        private final long[] open = new long[PLACES];
        private final int[] rowPairs = new int[ROW];
        // How many tiles a type has; at 0, how many there are in all.
        private final int[] tally = new int[MOST_TYPES + 1];
        private int pairs = 0;
        private int seeds = 0;
        private boolean attached = false;

        Field(TileSet set) {
            this.set = set;
            for (int i = 0; i < ROW; i++) {
                cells[i] = WALL;
                cells[PLACES - 1 - i] = WALL;
                cells[i * ROW] = WALL;
                cells[i * ROW + ROW - 1] = WALL;
            }
        }

        int tiles(int type) {
            return tally[type];
        }

        int seeds() {
            return seeds;
        }

        int pairs() {
            return pairs;
        }

        int pairsInRow(int y) {
            return rowPairs[y + 1];
        }

        /** The types that may attach at a place: none where a tile is. */
        long openAt(int place) {
            return open[place];
        }

        /** Whether a tile has attached since the field was empty. */
        boolean hasAttached() {
            return attached;
        }

        int typeAt(int place) {
            return cells[place] & TYPE_MASK;
        }

        int inputsAt(int place) {
            return cells[place] >> PAIR_BITS & ALL_SIDES;
        }

        boolean isSeed(int place) {
            return (cells[place] & SEED) != 0;
        }

        int outputsAt(int place) {
            int outputs = 0;
            for (int side = 0; side < SIDES; side++) {
                if ((inputsAt(place + STEPS[side]) >> opposite(side) & 1) != 0) {
                    outputs |= 1 << side;
                }
            }
            return outputs;
        }

        void wipe() {
            for (int place = 0; place < PLACES; place++) {
                cells[place] &= WALL;
            }
            Arrays.fill(open, 0L);
            Arrays.fill(rowPairs, 0);
            Arrays.fill(tally, 0);
            pairs = 0;
            seeds = 0;
            attached = false;
        }

        void join(int place, int type) {
            attached = true;
            put(place, type | inputsFor(place, type) << PAIR_BITS);
        }

        void put(int place, int cell) {
            cells[place] = cell;
            tally[0]++;
            tally[typeAt(place)]++;
            if (isSeed(place)) {
                seeds++;
            }
            refreshAround(place);
        }

        void take(int place) {
            if (isSeed(place)) {
                seeds--;
            }
            tally[0]--;
            tally[typeAt(place)]--;
            cells[place] = 0;
            if (tally[0] == 0) {
                attached = false;
            }
            refreshAround(place);
        }

        private void refreshAround(int place) {
            for (int step = 0; step < STEPS.length; step++) {
                int there = place + STEPS[step];
                long now = cells[there] == 0 ? fitting(there, ALL_SIDES) : 0L;
                int more = Long.bitCount(now) - Long.bitCount(open[there]);
                open[there] = now;
                rowPairs[there / ROW] += more;
                pairs += more;
            }
        }

        /** The types that the neighbours at some sides of a place hold by the temperature, if it were empty. */
        private long fitting(int place, int someSides) {
            long byOne = 0L;
            long byTwo = 0L;
            long byThree = 0L;
            for (int side = 0; side < SIDES; side++) {
                int type = typeAt(place + STEPS[side]);
                if (type == 0 || (someSides >> side & 1) == 0) {
                    continue;
                }
                int glue = set.glueAt(type, opposite(side));
                long held = set.bearersOf(glue, side);
                for (int more = set.strengthOf(glue); more > 0; more--) {
                    byThree |= byTwo & held;
                    byTwo |= byOne & held;
                    byOne |= held;
                }
            }
            int warmth = set.warmth();
            return warmth == 1 ? byOne : warmth == 2 ? byTwo : byThree;
        }

        /** By how much a type at a place holds to the neighbour at a side, or would. */
        int holding(int place, int type, int side) {
            int glue = set.glueAt(type, side);
            int facing = set.glueAt(typeAt(place + STEPS[side]), opposite(side));
            return glue == facing ? set.strengthOf(glue) : 0;
        }

        private int inputsFor(int place, int type) {
            int inputs = 0;
            for (int side = 0; side < SIDES; side++) {
                if (holding(place, type, side) > 0) {
                    inputs |= 1 << side;
                }
            }
            return inputs;
        }

        /** Pair i of the frontier; i is below pairs(). */
        int pairNumber(int i) {
            int left = i;
            int y = 0;
            while (y < WIDTH - 1 && left >= pairsInRow(y)) {
                left -= pairsInRow(y);
                y++;
            }
            int place = placeOf(0, y);
            int last = placeOf(WIDTH - 1, y);
            while (place < last && left >= Long.bitCount(open[place])) {
                left -= Long.bitCount(open[place]);
                place++;
            }
            long types = open[place];
            for (; left > 0; left--) {
                types &= types - 1;
            }
            return pairOf(place, least(types));
        }

        /** The first breach: its number below its pair of place and type, or NO_BREACH. */
        int firstBreach() {
            for (int place = 0; place < PLACES; place++) {
                int type = typeAt(place);
                if (type == 0 || isSeed(place)) {
                    continue;
                }
                if (inputStrength(place) != set.warmth()) {
                    return pairOf(place, type) << BREACH_BITS | 1;
                }
                long others = fitting(place, ALL_SIDES & ~outputsAt(place)) & ~only(type);
                if (others != 0) {
                    return pairOf(place, least(others)) << BREACH_BITS | 2;
                }
            }
            return pairs > 0 ? pairNumber(0) << BREACH_BITS | 3 : NO_BREACH;
        }

        /** By how much a tile's inputs held it: by its own glues, as what held it may be gone. */
        private int inputStrength(int place) {
            int type = typeAt(place);
            int inputs = inputsAt(place);
            int sum = 0;
            for (int side = 0; side < SIDES; side++) {
                if ((inputs >> side & 1) != 0) {
                    sum += set.strengthOf(set.glueAt(type, side));
                }
            }
            return sum;
        }

        void copySeeds(Field from) {
            wipe();
            for (int place = 0; place < PLACES; place++) {
                if (from.isSeed(place)) {
                    put(place, seedOf(from.typeAt(place)));
                }
            }
        }
    }

    /** All fields that can grow from seeds, each found once, by going forth and back on a field of its own. */
    private static final class Outcomes {
        private static final int BUCKETS = 512;
        private static final int SEEDS_ALONE = 0;

        private final Field field;
        // A field is kept as the one it was first found from and the pair that attached there.
        private final int[] parents = new int[MOST_FIELDS];
        private final int[] pairs = new int[MOST_FIELDS];
        private final int[] marks = new int[MOST_FIELDS];
        private final int[] nexts = new int[MOST_FIELDS];
        // Field 0, the seeds alone, is in no bucket: 0 ends a bucket's chain.
        private final int[] heads = new int[BUCKETS];
        private int fields = 0;
        private int ends = 0;
        private int deepest = 0;

        Outcomes(Field field) {
            this.field = field;
        }

        int number(Field from, int limit) {
            field.copySeeds(from);
            Arrays.fill(heads, 0);
            fields = 1;
            ends = 0;
            deepest = Math.max(0, limit - from.seeds());
            return spread(SEEDS_ALONE, 0, 0) ? ends : NONE;
        }

        /** Goes through all that grows from the field as it stands: whether the limits allow it. */
        private boolean spread(int from, int depth, int mark) {
            if (field.pairs() == 0) {
                ends++;
                return true;
            }
            if (depth >= deepest) {
                return false;
            }
            for (int y = 0; y < WIDTH; y++) {
                for (int x = 0; x < WIDTH && field.pairsInRow(y) > 0; x++) {
                    if (!spreadAt(placeOf(x, y), from, depth, mark)) {
                        return false;
                    }
                }
            }
            return true;
        }

        private boolean spreadAt(int place, int from, int depth, int mark) {
            long types = field.openAt(place);
            for (int left = Long.bitCount(types); left > 0; left--) {
                int type = least(types);
                types &= types - 1;
                int pair = pairOf(place, type);
                int newMark = mark + scatter(pair);
                if (isKnown(pair, depth + 1, newMark)) {
                    continue;
                }
                if (fields >= MOST_FIELDS) {
                    return false;
                }
                int found = keep(pair, from, newMark);
                field.put(place, seedOf(type));
                boolean allowed = spread(found, depth + 1, newMark);
                field.take(place);
                if (!allowed) {
                    return false;
                }
            }
            return true;
        }

        private int keep(int pair, int from, int mark) {
            int found = fields;
            fields++;
            parents[found] = from;
            pairs[found] = pair;
            marks[found] = mark;
            nexts[found] = heads[bucketOf(mark)];
            heads[bucketOf(mark)] = found;
            return found;
        }

        private boolean isKnown(int pair, int depth, int mark) {
            int kept = heads[bucketOf(mark)];
            for (int looked = 0; looked < MOST_FIELDS && kept != 0; looked++) {
                if (marks[kept] == mark && isSame(kept, pair, depth)) {
                    return true;
                }
                kept = nexts[kept];
            }
            return false;
        }

        /** Whether a kept field is the one that stands, with one pair more. */
        private boolean isSame(int kept, int pair, int depth) {
            int node = kept;
            for (int step = 0; step < depth; step++) {
                if (node == SEEDS_ALONE) {
                    return false;
                }
                int had = pairs[node];
                if (had != pair && field.typeAt(placeIn(had)) != typeIn(had)) {
                    return false;
                }
                node = parents[node];
            }
            return node == SEEDS_ALONE;
        }

        private static int bucketOf(int mark) {
            return (mark ^ mark >>> 16) & BUCKETS - 1;
        }

        /** Spreads pairs over all numbers, so that the sums that mark fields seldom meet. */
        private static int scatter(int pair) {
            int mixed = pair * 0x9E3779B1;
            mixed = (mixed ^ mixed >>> 15) * 0x85EBCA6B;
            return mixed ^ mixed >>> 13;
        }
    }

    /**
     * The least cut, by flows along the sides that hold, from each tile to those gathered before it. These
     * may be taken as one: what parts them from each other has been found when the later of them flowed.
     */
    private static final class Seams {
        private final int[] links = new int[MOST_SEAM_TILES * SIDES];
        private final int[] weights = new int[MOST_SEAM_TILES * SIDES];
        private final int[] rooms = new int[MOST_SEAM_TILES * SIDES];
        // The side by which the search left for a tile; NONE where it has not been.
        private final int[] arrivals = new int[MOST_SEAM_TILES];
        private final int[] queue = new int[MOST_SEAM_TILES];
        // The tile gathered last in each column: a place's southern neighbour, if it has one.
        private final int[] newest = new int[WIDTH];
        private int tiles = 0;

        int weakest(Field field) {
            gather(field);
            int best = SIDES * MOST_STRENGTH;
            for (int tile = 1; tile < tiles && best > 0; tile++) {
                best = flow(tile, best);
            }
            return best;
        }

        private void gather(Field field) {
            tiles = 0;
            Arrays.fill(weights, 0);
            Arrays.fill(newest, NONE);
            for (int place = 0; place < PLACES && tiles < MOST_SEAM_TILES; place++) {
                int type = field.typeAt(place);
                if (type == 0) {
                    continue;
                }
                int x = xOf(place);
                tie(newest[x], SOUTH, field.holding(place, type, SOUTH));
                tie(tiles - 1, WEST, field.holding(place, type, WEST));
                newest[x] = tiles;
                tiles++;
            }
        }

        /** Ties the tile being gathered to its neighbour, which was gathered before it, if that holds it. */
        private void tie(int earlier, int side, int weight) {
            if (weight == 0 || earlier < 0) {
                return;
            }
            links[tiles * SIDES + side] = earlier;
            weights[tiles * SIDES + side] = weight;
            links[earlier * SIDES + opposite(side)] = tiles;
            weights[earlier * SIDES + opposite(side)] = weight;
        }

        /** How much can flow from a tile to those before it, most at most. */
        private int flow(int from, int most) {
            System.arraycopy(weights, 0, rooms, 0, tiles * SIDES);
            for (int flown = 0; flown < most; flown++) {
                int end = earlierOne(from);
                if (end == NONE) {
                    return flown;
                }
                push(from, end);
            }
            return most;
        }

        /** The first tile before another one that the search from there comes to, or NONE. */
        private int earlierOne(int from) {
            Arrays.fill(arrivals, NONE);
            arrivals[from] = 0;
            queue[0] = from;
            int queued = 1;
            // Each tile is queued once at most.
            for (int next = 0; next < tiles && next < queued; next++) {
                int tile = queue[next];
                for (int side = 0; side < SIDES; side++) {
                    int there = links[tile * SIDES + side];
                    if (rooms[tile * SIDES + side] == 0 || arrivals[there] != NONE) {
                        continue;
                    }
                    arrivals[there] = side;
                    if (there < from) {
                        return there;
                    }
                    queue[queued] = there;
                    queued++;
                }
            }
            return NONE;
        }

        /** Lets 1 flow along the way that the search has found. */
        private void push(int from, int end) {
            int tile = end;
            for (int step = 0; step < tiles && tile != from; step++) {
                int side = arrivals[tile];
                int back = tile * SIDES + opposite(side);
                tile = links[back];
                rooms[back]++;
                rooms[tile * SIDES + side]--;
            }
        }
    }
}
