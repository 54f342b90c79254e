import java.util.Random;

/** Long runs of drawn calls, each answered by TileBench and by PlainBench: the answers must be the same. */
public final class RandomRunsTest {
    private static final int MOST_CALLS = 512;

    private final Checks checks;
    private final Random random;
    private final TileBench bench = new TileBench();
    private final PlainBench plain = new PlainBench();
    private final int run;
    private int calls = 0;
    private int types = 0;
    private int glues;
    private int left;
    private int low;
    private int span;

    private RandomRunsTest(Checks checks, int run) {
        this.checks = checks;
        this.run = run;
        random = new Random(7919L * run + 1);
    }

    public static void main(String[] args) {
        Checks checks = new Checks("RandomRunsTest");
        for (int run = 1; run <= 700 && !checks.anyWrong(); run++) {
            RandomRunsTest test = new RandomRunsTest(checks, run);
            int kind = run % 10;
            if (kind == 0) {
                test.rowSets();
            } else if (kind == 1) {
                test.wildCalls();
            } else if (kind == 2) {
                test.denseSeams();
            } else if (kind == 3) {
                test.branchingFinals();
            } else {
                test.smallSets();
            }
        }
        checks.finish();
    }

    private int draw(int below) {
        return random.nextInt(below);
    }

    private boolean room() {
        return calls < MOST_CALLS - 8;
    }

    private void same(String call, Checks.Call ours, Checks.Call theirs) {
        calls++;
        checks.same("run " + run + ", call " + calls + ": " + call, answer(theirs), answer(ours));
    }

    private static String answer(Checks.Call call) {
        try {
            return Long.toString(call.answer());
        } catch (RuntimeException e) {
            return Checks.thrown(e);
        }
    }

    private void smallSets() {
        for (int round = 0; round < 6 && room(); round++) {
            reset();
            buildSet(1 + draw(7), 1 + draw(4));
            int corner = draw(6);
            left = corner == 0 ? 0 : corner == 1 ? 36 : 10 + draw(20);
            low = corner == 2 ? 0 : corner == 3 ? 36 : 10 + draw(20);
            span = 4;
            for (int tries = 0; tries < 2 && room(); tries++) {
                plantSeeds(1 + draw(3));
                finals(1 + draw(draw(3) == 0 ? 30 : 8));
                work(25);
                clear();
            }
        }
    }

    private void rowSets() {
        for (int round = 0; round < 4 && room(); round++) {
            if (draw(2) == 0) {
                int bits = 1 + draw(draw(2) == 0 ? 4 : 20);
                counter(bits, draw(1 << bits), 1 + draw(draw(2) == 0 ? 5 : 40));
            } else {
                int width = 1 + draw(draw(2) == 0 ? 4 : 30);
                rule(width, draw(16), 1 + draw(draw(2) == 0 ? 5 : 40), random.nextInt() & (1 << width) - 1);
            }
            types = 7;
            left = 0;
            low = 0;
            span = 6;
            finals(1 + draw(30));
            if (draw(2) == 0) {
                grow(draw(2000));
            } else {
                drawn(draw(2000), random.nextInt());
            }
            work(30);
            clear();
        }
    }

    /** Seeds side by side, whatever holds them, so that seams of every strength come about. */
    private void denseSeams() {
        for (int round = 0; round < 3 && room(); round++) {
            reset();
            glues = 2;
            glue(1, 1 + draw(2));
            glue(2, 1 + draw(2));
            for (int t = 0; t < 3; t++) {
                tile(mostly(1), mostly(2), mostly(1), mostly(2));
            }
            int wide = 2 + draw(10);
            int high = 2 + draw(10);
            left = draw(41 - wide);
            low = draw(41 - high);
            span = 4;
            int gaps = draw(5);
            for (int place = 0; place < wide * high && room(); place++) {
                if (draw(10) >= gaps) {
                    seed(left + place % wide, low + place / wide, someType());
                }
                if (draw(10) == 0) {
                    seam();
                }
            }
            seam();
            work(10);
            clear();
        }
    }

    private int mostly(int glue) {
        return draw(10) == 0 ? someGlue() : glue;
    }

    /** Seeds that hold much and other types that hold little, so that the search comes to an end. */
    private void branchingFinals() {
        for (int round = 0; round < 8 && room(); round++) {
            reset();
            glues = 2 + draw(4);
            temperature(1 + draw(2));
            for (int g = 1; g <= glues; g++) {
                glue(g, 1 + draw(2));
            }
            tile(someGlue(), someGlue(), someGlue(), someGlue());
            int leaves = 2 + draw(9);
            for (int t = 0; t < leaves; t++) {
                int first = draw(4);
                int second = draw(4);
                int g = 1 + draw(glues);
                tile(first == 0 || second == 0 ? g : 0, first == 1 || second == 1 ? someGlue() : 0,
                    first == 2 ? g : 0, first == 3 || second == 3 ? someGlue() : 0);
            }
            left = 10;
            low = 10;
            span = 5;
            for (int i = 0; i <= draw(4); i++) {
                seed(someX(), someY(), draw(3) == 0 ? someType() : 1);
            }
            finals(30);
            finals(1 + draw(30));
            grow(draw(5));
            drop(someX(), someY());
            finals(1 + draw(30));
        }
    }

    /** Numbers round about every edge, in no sensible order. */
    private void wildCalls() {
        buildSet(3, 2);
        left = 18;
        low = 18;
        span = 4;
        while (room()) {
            int a = odd();
            int b = odd();
            int c = odd();
            int d = odd();
            switch (draw(20)) {
                case 0: glue(a, b); break;
                case 1: tile(a, b, c, d); break;
                case 2: temperature(a); break;
                case 3: seed(a, b, c); break;
                case 4: clear(); break;
                case 5: attach(a, b, c); break;
                case 6: grow(a); break;
                case 7: drawn(a, b); break;
                case 8: drop(a, b); break;
                case 9: front(a, b); break;
                case 10: at(a, b, c); break;
                case 11: count(a); break;
                case 12: breach(a); break;
                case 13: finals(a); break;
                case 14: counter(a, b, c); break;
                case 15: rule(a, b, c, d); break;
                default: step(); break;
            }
            look();
        }
    }

    private int odd() {
        int[] edges = {-1, 0, 1, 2, 3, 4, 15, 16, 20, 21, 30, 31, 39, 40, 41, 60, 61, 99, 100,
            Integer.MIN_VALUE, Integer.MAX_VALUE};
        return draw(2) == 0 ? draw(4) : edges[draw(edges.length)];
    }

    private void buildSet(int howMany, int howManyGlues) {
        glues = howManyGlues;
        temperature(1 + draw(3));
        for (int g = 1; g <= glues; g++) {
            glue(g, draw(3));
        }
        for (int t = 0; t < howMany; t++) {
            tile(someGlue(), someGlue(), someGlue(), someGlue());
        }
    }

    private int someGlue() {
        return draw(3) == 0 ? 0 : 1 + draw(glues);
    }

    private void plantSeeds(int howMany) {
        for (int i = 0; i < howMany; i++) {
            seed(someX(), someY(), someType());
        }
    }

    private int someX() {
        return left + draw(span);
    }

    private int someY() {
        return low + draw(span);
    }

    private int someType() {
        return 1 + draw(Math.max(1, types));
    }

    private void work(int steps) {
        for (int i = 0; i < steps && room(); i++) {
            step();
            if (draw(3) == 0) {
                look();
            }
        }
    }

    private void step() {
        switch (draw(9)) {
            case 0: grow(draw(4)); break;
            case 1: drawn(draw(6), random.nextInt()); break;
            case 2: drop(someX(), someY()); break;
            case 3: drop(someX(), someY()); break;
            case 4: attach(someX(), someY(), someType()); break;
            case 5: attach(someX(), someY(), someType()); break;
            case 6: seed(someX(), someY(), someType()); break;
            case 7: finals(1 + draw(12)); break;
            default: seam(); break;
        }
    }

    private void look() {
        switch (draw(5)) {
            case 0:
                for (int what = 0; what < 4; what++) {
                    breach(what);
                }
                break;
            case 1:
                int x = someX();
                int y = someY();
                for (int what = 0; what < 4; what++) {
                    at(x, y, what);
                }
                break;
            case 2:
                frontier();
                int i = draw(5);
                for (int what = 0; what < 3; what++) {
                    front(i, what);
                }
                break;
            case 3:
                count(draw(types + 2));
                count(0);
                break;
            default:
                seam();
                break;
        }
    }

    private void glue(int g, int s) {
        same("glue(" + g + ", " + s + ")", () -> bench.glue(g, s), () -> plain.glue(g, s));
    }

    private void tile(int n, int e, int s, int w) {
        same("tile(" + n + ", " + e + ", " + s + ", " + w + ")", () -> bench.tile(n, e, s, w), () -> {
            types = plain.tile(n, e, s, w);
            return types;
        });
    }

    private void temperature(int k) {
        same("temperature(" + k + ")", () -> bench.temperature(k), () -> plain.temperature(k));
    }

    private void seed(int x, int y, int type) {
        same("seed(" + x + ", " + y + ", " + type + ")", () -> {
            bench.seed(x, y, type);
            return 0;
        }, () -> {
            plain.seed(x, y, type);
            return 0;
        });
    }

    private void clear() {
        same("clear()", () -> bench.clear(), () -> plain.clear());
    }

    private void reset() {
        types = 0;
        same("reset()", () -> {
            bench.reset();
            return 0;
        }, () -> {
            plain.reset();
            return 0;
        });
    }

    private void attach(int x, int y, int type) {
        same("attach(" + x + ", " + y + ", " + type + ")",
            () -> bench.attach(x, y, type) ? 1 : 0, () -> plain.attach(x, y, type) ? 1 : 0);
    }

    private void grow(int n) {
        same("grow(" + n + ")", () -> bench.grow(n), () -> plain.grow(n));
    }

    private void drawn(int n, int z) {
        same("drawn(" + n + ", " + z + ")", () -> bench.drawn(n, z), () -> plain.drawn(n, z));
    }

    private void drop(int x, int y) {
        same("drop(" + x + ", " + y + ")", () -> bench.drop(x, y), () -> plain.drop(x, y));
    }

    private void frontier() {
        same("frontier()", () -> bench.frontier(), () -> plain.frontier());
    }

    private void front(int i, int what) {
        same("front(" + i + ", " + what + ")", () -> bench.front(i, what), () -> plain.front(i, what));
    }

    private void at(int x, int y, int what) {
        same("at(" + x + ", " + y + ", " + what + ")", () -> bench.at(x, y, what), () -> plain.at(x, y, what));
    }

    private void count(int type) {
        same("count(" + type + ")", () -> bench.count(type), () -> plain.count(type));
    }

    private void breach(int what) {
        same("breach(" + what + ")", () -> bench.breach(what), () -> plain.breach(what));
    }

    private void finals(int limit) {
        same("finals(" + limit + ")", () -> bench.finals(limit), () -> plain.finals(limit));
    }

    private void seam() {
        same("seam()", () -> bench.seam(), () -> plain.seam());
    }

    private void counter(int bits, int start, int rows) {
        same("counter(" + bits + ", " + start + ", " + rows + ")", () -> bench.counter(bits, start, rows), () -> {
            types = plain.counter(bits, start, rows);
            return types;
        });
    }

    private void rule(int width, int rule, int rows, int first) {
        same("rule(" + width + ", " + rule + ", " + rows + ", " + first + ")",
            () -> bench.rule(width, rule, rows, first), () -> {
                types = plain.rule(width, rule, rows, first);
                return types;
            });
    }
}
