/** One sentence of the document after another, each with the calls that show on both sides where it holds. */
final class Sentences {
    interface Edge {
        void look();
    }

    private final Checks checks;
    private String sentence = "";
    private int sentences = 0;

    Sentences(String name) {
        checks = new Checks(name);
    }

    /** A sentence of the document with its test: one that checks nothing is wrong itself. */
    void says(String words, Edge edge) {
        sentence = words;
        sentences++;
        int before = checks.checked();
        edge.look();
        checks.holds("\"" + sentence + "\" is tested", true, checks.checked() > before);
    }

    void finish() {
        System.out.println(sentences + " sentences");
        checks.finish();
    }

    void due(TileBench bench, long want, String call, int... numbers) {
        answers(bench, Long.toString(want), call, numbers);
    }

    void done(TileBench bench, String call, int... numbers) {
        answers(bench, Calls.DONE, call, numbers);
    }

    void throwing(TileBench bench, String want, String call, int... numbers) {
        answers(bench, want, call, numbers);
    }

    /** A call that throws in a state, and leaves all of that state as it was. */
    void refused(State state, String want, String call, int... numbers) {
        throwing(state.make(), want, call, numbers);
        unchanged(state, call, numbers);
    }

    /** A call that answers in a state, and leaves all of that state as it was. */
    void told(State state, long want, String call, int... numbers) {
        due(state.make(), want, call, numbers);
        unchanged(state, call, numbers);
    }

    /** A call that answers in a state, whatever it changes. */
    void allowed(State state, long want, String call, int... numbers) {
        due(state.make(), want, call, numbers);
    }

    void tile(TileBench bench, int x, int y, int type, int inputs, int outputs, int seed) {
        due(bench, type, "at", x, y, 0);
        due(bench, inputs, "at", x, y, 1);
        due(bench, outputs, "at", x, y, 2);
        due(bench, seed, "at", x, y, 3);
    }

    void noTile(TileBench bench, int x, int y) {
        tile(bench, x, y, 0, -1, -1, -1);
    }

    void pair(TileBench bench, int i, int x, int y, int type) {
        due(bench, x, "front", i, 0);
        due(bench, y, "front", i, 1);
        due(bench, type, "front", i, 2);
    }

    void breach(TileBench bench, int number, int x, int y, int type) {
        due(bench, number, "breach", 0);
        due(bench, x, "breach", 1);
        due(bench, y, "breach", 2);
        due(bench, type, "breach", 3);
    }

    void noBreach(TileBench bench) {
        breach(bench, 0, -1, -1, -1);
    }

    private void answers(TileBench bench, String want, String call, int... numbers) {
        String got = Calls.answer(bench, call, numbers);
        checks.same("\"" + sentence + "\": " + Calls.text(call, numbers), want, got);
    }

    private void unchanged(State state, String call, int... numbers) {
        String changed = state.changedBy(bench -> Calls.answer(bench, call, numbers));
        checks.same("\"" + sentence + "\": what " + Calls.text(call, numbers) + " changes in " + state, "nothing", changed);
    }
}
