/** What the tests of boundary cases share: objects to start from, and ints that lie outside. */
final class Bench {
    static final int MIN = Integer.MIN_VALUE;
    static final int MAX = Integer.MAX_VALUE;
    /** Stands for a level where the object is left at the one it was made with. */
    static final int AS_NEW = -1;

    // The great ones are multiples of high powers of 2: an index reckoned from them wraps back to a good one.
    static final int[] NO_PLACE = {MIN, -12, -1, 12, 13, 35, 1 << 30, MAX};
    static final int[] NO_INPUT = {MIN, -1, 3, 4, 1 << 30, MAX};
    static final int[] NO_EXAMPLE = {MIN, -1, 3, 4, 1 << 30, MAX};
    static final int[] NO_COMPONENT = {MIN, -1, 4, 5, 1 << 30, MAX};

    /** Nodes of the object that filled() makes. */
    static final int INPUT_2 = 2;
    static final int SQUARES = 6;
    static final int SQUARE_OF_SUM = 7;
    static final int NODES = 8;
    static final int[] NO_NODE = {MIN, -1, NODES, NODES + 1, 11, 12, 1 << 30, MAX};

    private Bench() {
    }

    static GradientCompiler made(int level) {
        GradientCompiler g = new GradientCompiler();
        if (level != AS_NEW) {
            g.level(level);
        }
        return g;
    }

    /** Components in the order of their places, from 0 on, all in example 0. */
    static GradientCompiler withInputs(int level, int... components) {
        GradientCompiler g = made(level);
        for (int at = 0; at < components.length; at++) {
            g.set(at, 0, components[at]);
        }
        return g;
    }

    static int mark(int at, int example) {
        return 100 * (example + 1) + at;
    }

    /** The sum of an example's marks. */
    static int sum(int example) {
        return 1200 * (example + 1) + 66;
    }

    /**
     * All inputs are marked, the directions are the negatives, and every good question about SQUARE_OF_SUM (a
     * number) and SQUARES (a vector) has an answer other than 0, so that a 0 shows that the question was refused.
     */
    static GradientCompiler filled(int level) {
        GradientCompiler g = made(level);
        for (int example = 0; example < 3; example++) {
            for (int at = 0; at < 12; at++) {
                g.set(at, example, mark(at, example));
                g.aim(at, example, -mark(at, example));
            }
        }
        for (int input = 0; input < 3; input++) {
            g.node(0, input, 0);
        }
        g.node(2, 0, 1);
        g.node(2, 3, 2);
        g.node(5, 4, 0);
        g.node(4, 4, 4);
        g.node(4, 5, 5);
        askAll(g);
        return g;
    }

    /** Fills whatever the object keeps of its answers, so that a wrong question would find something there. */
    private static void askAll(GradientCompiler g) {
        for (int example = 0; example < 3; example++) {
            g.value(SQUARE_OF_SUM, 0, example);
            g.along(SQUARE_OF_SUM, 0, example);
            g.bend(SQUARE_OF_SUM, 0, 11, example);
        }
    }

    /** No input, direction or node of an object from filled() has changed. */
    static void unchanged(GradientCompiler g) {
        inputsAsMarked(g);
        int[] vector = {1, 1, 1, 1, 1, 0, 1, 0};
        for (int n = 0; n < NODES; n++) {
            Check.due("afterwards isVector(" + n + ")", g.isVector(n), vector[n]);
        }
        Check.due("afterwards isVector(" + NODES + ")", g.isVector(NODES), GradientCompiler.BAD);
        for (int example = 0; example < 3; example++) {
            int want = sum(example) * sum(example);
            Check.due("afterwards the square in example " + example, g.value(SQUARE_OF_SUM, 0, example), want);
        }
    }

    private static void inputsAsMarked(GradientCompiler g) {
        for (int example = 0; example < 3; example++) {
            for (int at = 0; at < 12; at++) {
                String place = "afterwards, at " + at + " in example " + example + ", the ";
                Check.due(place + "input", g.input(at, example), mark(at, example));
                Check.due(place + "direction", g.along(at / 4, at % 4, example), -mark(at, example));
            }
        }
    }
}
