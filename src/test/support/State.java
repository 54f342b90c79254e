import java.util.ArrayList;
import java.util.List;
import java.util.function.Consumer;

/** A way to bring a new object into some state, and all that the face can tell of an object in it. */
final class State {
    private static final int PLACES = 1600;
    // An object answers 512 calls, and some are gone by its recipe: a look is shared out to many objects.
    private static final int PLACES_AT_ONCE = 80;
    private static final int PAIRS_AT_MOST = 60;

    private final String name;
    private final Consumer<TileBench> recipe;
    private List<String> untouched = null;

    State(String name, Consumer<TileBench> recipe) {
        this.name = name;
        this.recipe = recipe;
    }

    @Override
    public String toString() {
        return name;
    }

    TileBench make() {
        return made(recipe);
    }

    static TileBench made(Consumer<TileBench> recipe) {
        TileBench bench = new TileBench();
        recipe.accept(bench);
        return bench;
    }

    /** What a step changes of all that can be told, or "nothing". */
    String changedBy(Consumer<TileBench> step) {
        if (untouched == null) {
            untouched = look(bench -> { });
        }
        List<String> now = look(step);
        for (int i = 0; i < Math.max(now.size(), untouched.size()); i++) {
            String before = i < untouched.size() ? untouched.get(i) : "not there";
            String after = i < now.size() ? now.get(i) : "not there";
            if (!before.equals(after)) {
                return before + " is now " + after;
            }
        }
        return "nothing";
    }

    private List<String> look(Consumer<TileBench> step) {
        List<String> seen = new ArrayList<>();
        for (int from = 0; from < PLACES; from += PLACES_AT_ONCE) {
            lookAtPlaces(after(step), from, seen);
        }
        lookAtAll(after(step), seen);
        lookAtWhatGrows(after(step), seen);
        lookAtWhatCanBeSeeded(after(step), seen);
        lookAtTheSet(after(step), seen);
        lookAtTheTypes(after(step), seen);
        return seen;
    }

    private TileBench after(Consumer<TileBench> step) {
        TileBench bench = make();
        step.accept(bench);
        return bench;
    }

    private static void tell(TileBench bench, List<String> seen, String call, int... numbers) {
        seen.add(Calls.text(call, numbers) + " = " + Calls.answer(bench, call, numbers));
    }

    private static void lookAtPlaces(TileBench bench, int from, List<String> seen) {
        for (int place = from; place < from + PLACES_AT_ONCE; place++) {
            for (int what = 0; what <= 3; what++) {
                tell(bench, seen, "at", place % 40, place / 40, what);
            }
        }
    }

    private static void lookAtAll(TileBench bench, List<String> seen) {
        for (int type = 0; type <= 61; type++) {
            tell(bench, seen, "count", type);
        }
        tell(bench, seen, "frontier");
        int pairs = Math.min(PAIRS_AT_MOST, bench.frontier());
        for (int i = 0; i < pairs; i++) {
            for (int what = 0; what <= 2; what++) {
                tell(bench, seen, "front", i, what);
            }
        }
        for (int what = 0; what <= 3; what++) {
            tell(bench, seen, "breach", what);
        }
        tell(bench, seen, "finals", 1);
        tell(bench, seen, "finals", 8);
        tell(bench, seen, "finals", 30);
        tell(bench, seen, "seam");
    }

    private static void lookAtWhatGrows(TileBench bench, List<String> seen) {
        tell(bench, seen, "grow", 3);
        tell(bench, seen, "drawn", 5, 12345);
        tell(bench, seen, "breach", 0);
        tell(bench, seen, "frontier");
        tell(bench, seen, "count", 0);
        tell(bench, seen, "grow", 2000);
        tell(bench, seen, "breach", 0);
        tell(bench, seen, "clear");
    }

    private static void lookAtWhatCanBeSeeded(TileBench bench, List<String> seen) {
        tell(bench, seen, "seed", 0, 39, 1);
        tell(bench, seen, "seed", 39, 0, 1);
        tell(bench, seen, "frontier");
        tell(bench, seen, "finals", 30);
    }

    private static void lookAtTheSet(TileBench bench, List<String> seen) {
        tell(bench, seen, "clear");
        for (int g = 1; g <= 99; g++) {
            tell(bench, seen, "glue", g, 2);
        }
        tell(bench, seen, "temperature", 1);
        tell(bench, seen, "tile", 0, 0, 0, 0);
    }

    /** What may come beside each type, with all glues strong. */
    private static void lookAtTheTypes(TileBench bench, List<String> seen) {
        bench.clear();
        for (int g = 1; g <= 99; g++) {
            bench.glue(g, 2);
        }
        bench.temperature(1);
        for (int type = 1; type <= 8; type++) {
            tell(bench, seen, "seed", 20, 20, type);
            tell(bench, seen, "frontier");
            int pairs = Math.min(8, bench.frontier());
            for (int i = 0; i < pairs; i++) {
                tell(bench, seen, "front", i, 0);
                tell(bench, seen, "front", i, 2);
            }
            bench.clear();
        }
    }
}
