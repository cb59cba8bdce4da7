/**
 * Promises 1 to 15 over long mixed runs: the program at level 0, 1, 2 and at a level that changes on the
 * way must answer as the model does. The runs are the same every time: the numbers come from a fixed sequence.
 */
public final class ModelTest {
    private static final int RUNS = 400;
    private static final int CALLS = 511;
    private static final int[] EDGES = {Integer.MIN_VALUE, -4, -3, -2, -1, 3, 4, 11, 12, 13, 36, Integer.MAX_VALUE};

    private long sequence;
    private Model model;
    private GradientCompiler[] programs;

    public static void main(String[] args) {
        for (int run = 0; run < RUNS && !Check.anyWrong(); run++) {
            new ModelTest().run(run);
        }
        Check.end();
    }

    private int below(int bound) {
        sequence = sequence * 6364136223846793005L + 1442695040888963407L;
        return (int) ((sequence >>> 33) % bound);
    }

    private void run(int run) {
        sequence = run;
        model = new Model();
        programs = new GradientCompiler[] {
            new GradientCompiler(), new GradientCompiler(), new GradientCompiler(), new GradientCompiler()};
        for (int level = 0; level < 3; level++) {
            programs[level].level(level);
        }
        for (int call = 0; call < CALLS && !Check.anyWrong(); call++) {
            call("run " + run + ", call " + call + ": ", pickCall(call));
        }
    }

    private int pickCall(int call) {
        if (call < 20) {
            return below(3) == 0 ? 1 : 0;
        }
        return below(60) == 0 ? 12 : below(12);
    }

    private void call(String where, int which) {
        int n = below(10) == 0 ? edge() : model.size() == 0 ? below(12) : below(model.size());
        int i = model.isVector(n) == 0 && below(5) != 0 ? 0 : orEdge(4);
        int at = orEdge(12);
        int by = orEdge(12);
        int example = orEdge(3);
        int amount = amount();
        switch (which) {
            case 0 -> makeNode(where);
            case 1 -> same(where + "set", model.set(at, example, amount), g -> g.set(at, example, amount));
            case 2 -> same(where + "aim", model.aim(at, example, amount), g -> g.aim(at, example, amount));
            case 3 -> same(where + "input", model.input(at, example), g -> g.input(at, example));
            case 4 -> same(where + "isVector", model.isVector(n), g -> g.isVector(n));
            case 5 -> same(where + "value", model.value(n, i, example), g -> g.value(n, i, example));
            case 6 -> same(where + "slope", model.slope(n, at, example), g -> g.slope(n, at, example));
            case 7 -> same(where + "bend", model.bend(n, at, by, example), g -> g.bend(n, at, by, example));
            case 8 -> same(where + "along", model.along(n, i, example), g -> g.along(n, i, example));
            case 9 -> same(where + "slopeOfAll", model.slopeOfAll(n, at), g -> g.slopeOfAll(n, at));
            case 10 -> makeStep(where, n, example, amount);
            case 11 -> changeLevel(where);
            default -> same(where + "forget", model.forget(), g -> g.forget());
        }
    }

    private void makeNode(String where) {
        int kind = below(20) == 0 ? edge() : below(11);
        int nodes = Math.max(1, model.size());
        int x = kind == 0 ? orEdge(3) : kind == 1 ? amount() : orEdge(nodes);
        int y = kind == 7 ? orEdge(4) : orEdge(nodes);
        same(where + "node " + kind + " " + x + " " + y, model.node(kind, x, y), g -> g.node(kind, x, y));
    }

    private void makeStep(String where, int n, int example, int rate) {
        int input = orEdge(3);
        same(where + "step", model.step(n, input, example, rate), g -> g.step(n, input, example, rate));
    }

    /** Only the last program changes, so that the other three stay each at a level of its own. */
    private void changeLevel(String where) {
        int k = orEdge(3);
        Check.due(where + "level " + k, programs[3].level(k), model.level(k));
    }

    private int orEdge(int bound) {
        return below(25) == 0 ? edge() : below(bound);
    }

    private int edge() {
        return EDGES[below(EDGES.length)];
    }

    private int amount() {
        return switch (below(8)) {
            case 0 -> (below(1 << 16) << 16) + below(1 << 16);
            case 1 -> edge();
            case 2 -> 0;
            default -> below(15) - 6;
        };
    }

    private interface Call {
        int on(GradientCompiler program);
    }

    private interface Deed {
        boolean on(GradientCompiler program);
    }

    private void same(String what, int want, Call call) {
        for (int k = 0; k < programs.length; k++) {
            Check.due(what + " on program " + k, call.on(programs[k]), want);
        }
    }

    private void same(String what, boolean want, Deed deed) {
        for (int k = 0; k < programs.length; k++) {
            Check.due(what + " on program " + k, deed.on(programs[k]), want);
        }
    }
}
