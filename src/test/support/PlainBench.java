import java.util.ArrayList;
import java.util.HashSet;
import java.util.List;
import java.util.Set;
import java.util.TreeMap;

/** The document word for word, without a thought for speed: what TileBench is measured against. */
final class PlainBench {
    private static final int[] DX = {0, 1, 0, -1};
    private static final int[] DY = {1, 0, -1, 0};

    private static final class Tile {
        final int type;
        final int inputs;
        final boolean seed;

        Tile(int type, int inputs, boolean seed) {
            this.type = type;
            this.inputs = inputs;
            this.seed = seed;
        }
    }

    private int[] strength = new int[100];
    private List<int[]> types = new ArrayList<>();
    private int temperature = 2;
    private Tile[][] field = new Tile[40][40];
    private boolean attached = false;

    private static boolean inside(int x, int y) {
        return x >= 0 && x < 40 && y >= 0 && y < 40;
    }

    private static Tile tileIn(Tile[][] tiles, int x, int y) {
        return inside(x, y) ? tiles[x][y] : null;
    }

    private int hold(int a, int b) {
        return a == b && a != 0 ? strength[a] : 0;
    }

    private int held(Tile[][] tiles, int x, int y, int type, int side) {
        Tile there = tileIn(tiles, x + DX[side], y + DY[side]);
        if (there == null) {
            return 0;
        }
        return hold(types.get(type - 1)[side], types.get(there.type - 1)[(side + 2) % 4]);
    }

    private boolean mayAttach(Tile[][] tiles, int x, int y, int type) {
        if (tiles[x][y] != null) {
            return false;
        }
        int sum = 0;
        for (int side = 0; side < 4; side++) {
            sum += held(tiles, x, y, type, side);
        }
        return sum >= temperature;
    }

    private List<int[]> frontierOf(Tile[][] tiles) {
        List<int[]> pairs = new ArrayList<>();
        for (int y = 0; y < 40; y++) {
            for (int x = 0; x < 40; x++) {
                boolean near = false;
                for (int side = 0; side < 4; side++) {
                    near |= tileIn(tiles, x + DX[side], y + DY[side]) != null;
                }
                for (int type = 1; near && type <= types.size(); type++) {
                    if (mayAttach(tiles, x, y, type)) {
                        pairs.add(new int[] {x, y, type});
                    }
                }
            }
        }
        return pairs;
    }

    private void join(int x, int y, int type) {
        int inputs = 0;
        for (int side = 0; side < 4; side++) {
            if (held(field, x, y, type, side) > 0) {
                inputs |= 1 << side;
            }
        }
        field[x][y] = new Tile(type, inputs, false);
        attached = true;
    }

    private int outputs(int x, int y) {
        int outputs = 0;
        for (int side = 0; side < 4; side++) {
            Tile there = tileIn(field, x + DX[side], y + DY[side]);
            if (there != null && (there.inputs & 1 << (side + 2) % 4) != 0) {
                outputs |= 1 << side;
            }
        }
        return outputs;
    }

    private int tiles() {
        int tiles = 0;
        for (Tile[] column : field) {
            for (Tile tile : column) {
                tiles += tile == null ? 0 : 1;
            }
        }
        return tiles;
    }

    private void needEmpty() {
        if (tiles() > 0) {
            throw new IllegalStateException();
        }
    }

    private static void need(boolean fine) {
        if (!fine) {
            throw new IllegalArgumentException();
        }
    }

    private static void needPlace(int x, int y) {
        if (!inside(x, y)) {
            throw new IndexOutOfBoundsException();
        }
    }

    int glue(int g, int s) {
        needEmpty();
        need(g >= 1 && g <= 99 && s >= 0 && s <= 2);
        int was = strength[g];
        strength[g] = s;
        return was;
    }

    int tile(int north, int east, int south, int west) {
        needEmpty();
        for (int glue : new int[] {north, east, south, west}) {
            need(glue >= 0 && glue <= 99);
        }
        if (types.size() == 60) {
            throw new UnsupportedOperationException();
        }
        types.add(new int[] {north, east, south, west});
        return types.size();
    }

    int temperature(int k) {
        needEmpty();
        need(k >= 1 && k <= 3);
        int was = temperature;
        temperature = k;
        return was;
    }

    void seed(int x, int y, int type) {
        needPlace(x, y);
        need(type >= 1 && type <= types.size());
        if (field[x][y] != null || attached) {
            throw new IllegalStateException();
        }
        field[x][y] = new Tile(type, 0, true);
    }

    int clear() {
        int had = tiles();
        field = new Tile[40][40];
        attached = false;
        return had;
    }

    void reset() {
        clear();
        strength = new int[100];
        types = new ArrayList<>();
        temperature = 2;
    }

    boolean attach(int x, int y, int type) {
        needPlace(x, y);
        need(type >= 1 && type <= types.size());
        if (!mayAttach(field, x, y, type)) {
            return false;
        }
        join(x, y, type);
        return true;
    }

    int grow(int n) {
        need(n >= 0);
        for (int done = 0; done < n; done++) {
            List<int[]> pairs = frontierOf(field);
            if (pairs.isEmpty()) {
                return done;
            }
            join(pairs.get(0)[0], pairs.get(0)[1], pairs.get(0)[2]);
        }
        return n;
    }

    int drawn(int n, int z) {
        need(n >= 0);
        for (int done = 0; done < n; done++) {
            List<int[]> pairs = frontierOf(field);
            if (pairs.isEmpty()) {
                return done;
            }
            z = 1664525 * z + 1013904223;
            int[] pair = pairs.get((z >>> 8) % pairs.size());
            join(pair[0], pair[1], pair[2]);
        }
        return n;
    }

    int drop(int x, int y) {
        needPlace(x, y);
        if (field[x][y] == null) {
            return 0;
        }
        int type = field[x][y].type;
        field[x][y] = null;
        if (tiles() == 0) {
            attached = false;
        }
        return type;
    }

    int frontier() {
        return frontierOf(field).size();
    }

    int front(int i, int what) {
        List<int[]> pairs = frontierOf(field);
        if (i < 0 || i >= pairs.size()) {
            throw new IndexOutOfBoundsException();
        }
        need(what >= 0 && what <= 2);
        return pairs.get(i)[what];
    }

    int at(int x, int y, int what) {
        needPlace(x, y);
        need(what >= 0 && what <= 3);
        Tile tile = field[x][y];
        if (tile == null) {
            return what == 0 ? 0 : -1;
        }
        return new int[] {tile.type, tile.inputs, outputs(x, y), tile.seed ? 1 : 0}[what];
    }

    int count(int type) {
        need(type >= 0 && type <= types.size());
        int found = 0;
        for (Tile[] column : field) {
            for (Tile tile : column) {
                found += tile != null && (type == 0 || tile.type == type) ? 1 : 0;
            }
        }
        return found;
    }

    int breach(int what) {
        need(what >= 0 && what <= 3);
        int[] found = firstBreach();
        return found == null ? (what == 0 ? 0 : -1) : found[what];
    }

    private int[] firstBreach() {
        for (int y = 0; y < 40; y++) {
            for (int x = 0; x < 40; x++) {
                Tile tile = field[x][y];
                if (tile == null || tile.seed) {
                    continue;
                }
                int sum = 0;
                for (int side = 0; side < 4; side++) {
                    if ((tile.inputs & 1 << side) != 0) {
                        sum += strength[types.get(tile.type - 1)[side]];
                    }
                }
                if (sum != temperature) {
                    return new int[] {1, x, y, tile.type};
                }
                int other = otherType(x, y);
                if (other != 0) {
                    return new int[] {2, x, y, other};
                }
            }
        }
        List<int[]> pairs = frontierOf(field);
        return pairs.isEmpty() ? null : new int[] {3, pairs.get(0)[0], pairs.get(0)[1], pairs.get(0)[2]};
    }

    private int otherType(int x, int y) {
        Tile[][] without = new Tile[40][];
        for (int i = 0; i < 40; i++) {
            without[i] = field[i].clone();
        }
        without[x][y] = null;
        int outputs = outputs(x, y);
        for (int side = 0; side < 4; side++) {
            if ((outputs & 1 << side) != 0) {
                without[x + DX[side]][y + DY[side]] = null;
            }
        }
        for (int type = 1; type <= types.size(); type++) {
            if (type != field[x][y].type && mayAttach(without, x, y, type)) {
                return type;
            }
        }
        return 0;
    }

    int finals(int limit) {
        TreeMap<Integer, Integer> seeds = new TreeMap<>();
        for (int x = 0; x < 40; x++) {
            for (int y = 0; y < 40; y++) {
                if (field[x][y] != null && field[x][y].seed) {
                    seeds.put(y * 40 + x, field[x][y].type);
                }
            }
        }
        if (seeds.isEmpty()) {
            throw new IllegalStateException();
        }
        need(limit >= 1 && limit <= 30);
        int most = Math.max(limit, seeds.size());
        Set<TreeMap<Integer, Integer>> level = new HashSet<>();
        level.add(seeds);
        int fields = 1;
        int finals = 0;
        for (int size = seeds.size(); !level.isEmpty(); size++) {
            Set<TreeMap<Integer, Integer>> next = new HashSet<>();
            for (TreeMap<Integer, Integer> grown : level) {
                List<int[]> pairs = frontierOf(fieldOf(grown));
                if (pairs.isEmpty()) {
                    finals++;
                } else if (size == most) {
                    return -1;
                }
                for (int[] pair : pairs) {
                    TreeMap<Integer, Integer> more = new TreeMap<>(grown);
                    more.put(pair[1] * 40 + pair[0], pair[2]);
                    next.add(more);
                }
                if (fields + next.size() > 500) {
                    return -1;
                }
            }
            fields += next.size();
            level = next;
        }
        return finals;
    }

    private static Tile[][] fieldOf(TreeMap<Integer, Integer> grown) {
        Tile[][] tiles = new Tile[40][40];
        for (int place : grown.keySet()) {
            tiles[place % 40][place / 40] = new Tile(grown.get(place), 0, true);
        }
        return tiles;
    }

    int seam() {
        List<int[]> at = new ArrayList<>();
        for (int x = 0; x < 40; x++) {
            for (int y = 0; y < 40; y++) {
                if (field[x][y] != null) {
                    at.add(new int[] {x, y});
                }
            }
        }
        if (at.size() < 2) {
            throw new IllegalStateException();
        }
        if (at.size() > 120) {
            throw new UnsupportedOperationException();
        }
        int[][] weight = new int[at.size()][at.size()];
        for (int i = 0; i < at.size(); i++) {
            for (int j = 0; j < at.size(); j++) {
                for (int side = 0; side < 4; side++) {
                    int x = at.get(i)[0];
                    int y = at.get(i)[1];
                    if (at.get(j)[0] == x + DX[side] && at.get(j)[1] == y + DY[side]) {
                        weight[i][j] = held(field, x, y, field[x][y].type, side);
                    }
                }
            }
        }
        return at.size() <= 10 ? cutByAllParts(weight) : cutByPhases(weight);
    }

    private static int cutByAllParts(int[][] weight) {
        int n = weight.length;
        int least = Integer.MAX_VALUE;
        for (int part = 1; part < (1 << n) - 1; part++) {
            int sum = 0;
            for (int i = 0; i < n; i++) {
                for (int j = 0; j < n; j++) {
                    if ((part >> i & 1) == 1 && (part >> j & 1) == 0) {
                        sum += weight[i][j];
                    }
                }
            }
            least = Math.min(least, sum);
        }
        return least;
    }

    /** The way of Stoer and Wagner: in each phase the node added last is cut off, then merged. */
    private static int cutByPhases(int[][] weight) {
        int n = weight.length;
        boolean[] merged = new boolean[n];
        int least = Integer.MAX_VALUE;
        for (int left = n; left > 1; left--) {
            boolean[] added = new boolean[n];
            int[] to = new int[n];
            int before = -1;
            int last = -1;
            for (int k = 0; k < left; k++) {
                int best = -1;
                for (int i = 0; i < n; i++) {
                    if (!merged[i] && !added[i] && (best < 0 || to[i] > to[best])) {
                        best = i;
                    }
                }
                added[best] = true;
                before = last;
                last = best;
                for (int i = 0; i < n; i++) {
                    to[i] += best == i ? 0 : weight[best][i];
                }
            }
            least = Math.min(least, to[last]);
            merged[last] = true;
            for (int i = 0; i < n; i++) {
                weight[before][i] += weight[last][i];
                weight[i][before] += weight[i][last];
            }
            weight[before][before] = 0;
        }
        return least;
    }

    int counter(int bits, int start, int rows) {
        needEmpty();
        need(bits >= 1 && bits <= 20 && rows >= 1 && rows <= 40);
        need(start >= 0 && start <= (1 << bits) - 1);
        beginRows();
        tile(0, 0, 0, 4);
        for (int b = 0; b < 2; b++) {
            for (int c = 0; c < 2; c++) {
                tile(1 + (b + c) % 2, 3 + c, 1 + b, 3 + b * c);
            }
        }
        for (int x = 0; x < bits; x++) {
            seed(x, 0, (start & 1 << bits - 1 - x) == 0 ? 1 : 2);
        }
        for (int y = 1; y < rows; y++) {
            seed(bits, y, 3);
        }
        return 7;
    }

    int rule(int width, int rule, int rows, int first) {
        needEmpty();
        need(width >= 1 && width <= 30 && rule >= 0 && rule <= 15 && rows >= 1 && rows <= 40);
        need(first >= 0 && first <= (1 << width) - 1);
        beginRows();
        tile(0, 3, 0, 0);
        for (int a = 0; a < 2; a++) {
            for (int b = 0; b < 2; b++) {
                tile((rule & 1 << 2 * a + b) == 0 ? 1 : 2, 3 + b, 1 + b, 3 + a);
            }
        }
        for (int i = 0; i < width; i++) {
            seed(i + 1, 0, (first & 1 << i) == 0 ? 1 : 2);
        }
        for (int y = 1; y < rows; y++) {
            seed(0, y, 3);
        }
        return 7;
    }

    private void beginRows() {
        reset();
        for (int g = 1; g <= 4; g++) {
            glue(g, 1);
        }
        tile(1, 0, 0, 0);
        tile(2, 0, 0, 0);
    }
}
