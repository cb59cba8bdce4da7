/** Promises 13 and 14: step, and level, which shows in no answer. */
public final class StepsTest {
    private static final int MIN = Integer.MIN_VALUE;
    private static final int MAX = Integer.MAX_VALUE;

    public static void main(String[] args) {
        for (int level = 0; level < 3; level++) {
            allAtOnce(level);
            oneInputInOneExample(level);
            rates(level);
            refusals(level);
            downhill(level);
        }
        levels();
        Check.end();
    }

    /** Node 3 is x0 * x1 + x1 * x2 and so on around, of input 1. */
    private static GradientCompiler ring(int level) {
        GradientCompiler g = new GradientCompiler();
        g.level(level);
        g.node(0, 1, 0);
        g.node(6, 0, 0);
        g.node(4, 0, 1);
        g.node(5, 2, 0);
        for (int example = 0; example < 3; example++) {
            for (int at = 0; at < 12; at++) {
                g.set(at, example, start(at, example));
            }
        }
        return g;
    }

    private static int start(int at, int example) {
        return at * at + 1 + 100 * example;
    }

    private static void inputs(String what, GradientCompiler g, int example, int first, int... want) {
        for (int i = 0; i < want.length; i++) {
            Check.due(what + ": input " + (first + i), g.input(first + i, example), want[i]);
        }
    }

    private static void allAtOnce(int level) {
        GradientCompiler g = ring(level);
        // Components 17, 26, 37, 50; the derivative by each is the sum of its neighbours.
        Check.due("value before", g.value(3, 0, 0), 17 * 26 + 26 * 37 + 37 * 50 + 50 * 17);
        Check.due("step", g.step(3, 1, 0, 2), true);
        inputs("stepped", g, 0, 4, 17 - 152, 26 - 108, 37 - 152, 50 - 108);
        Check.due("value after", g.value(3, 0, 0), -135 * -82 + -82 * -115 + -115 * -58 + -58 * -135);
        Check.due("slope after", g.slope(3, 4, 0), -140);
    }

    private static void oneInputInOneExample(int level) {
        GradientCompiler g = ring(level);
        g.node(0, 2, 0);
        g.node(5, 4, 0);
        g.node(4, 5, 3);
        g.aim(8, 1, 6);
        Check.due("step", g.step(6, 2, 1, 1), true);
        for (int example = 0; example < 3; example++) {
            for (int at = 0; at < 12; at++) {
                boolean moved = example == 1 && at >= 8;
                int slope = 117 * 126 + 126 * 137 + 137 * 150 + 150 * 117;
                Check.due("input " + at + " in " + example, g.input(at, example), start(at, example) - (moved ? slope : 0));
            }
        }
        Check.due("the direction stays", g.along(4, 0, 1), 6);
        Check.due("a step by an input that plays no part", g.step(6, 0, 1, 5), true);
        Check.due("moves nothing", g.input(0, 1), start(0, 1));
    }

    private static void rates(int level) {
        GradientCompiler g = ring(level);
        Check.due("rate 0", g.step(3, 1, 2, 0), true);
        inputs("rate 0", g, 2, 4, 217, 226, 237, 250);
        Check.due("rate -1", g.step(3, 1, 2, -1), true);
        inputs("rate -1", g, 2, 4, 693, 680, 713, 704);
        GradientCompiler h = ring(level);
        h.step(3, 1, 0, MAX);
        inputs("greatest rate", h, 0, 4, 17 - 76 * MAX, 26 - 54 * MAX, 37 - 76 * MAX, 50 - 54 * MAX);
        GradientCompiler k = ring(level);
        k.set(5, 0, 27);
        k.step(3, 1, 0, MIN);
        inputs("least rate", k, 0, 4, 17 - 77 * MIN, 27, 37 - 77 * MIN, 50);
    }

    private static void refusals(int level) {
        GradientCompiler g = ring(level);
        for (int n : new int[] {MIN, -1, 4, 12, MAX}) {
            Check.due("step of node " + n, g.step(n, 1, 0, 1), false);
        }
        Check.due("step of a vector", g.step(2, 1, 0, 1), false);
        for (int input : new int[] {MIN, -1, 3, 4, MAX}) {
            Check.due("step of input " + input, g.step(3, input, 0, 1), false);
        }
        for (int example : new int[] {MIN, -1, 3, MAX}) {
            Check.due("step in example " + example, g.step(3, 1, example, 1), false);
        }
        for (int example = 0; example < 3; example++) {
            for (int at = 0; at < 12; at++) {
                Check.due("input after refusals", g.input(at, example), start(at, example));
            }
        }
    }

    /** Steps down the sum of squares at rate 1 throw each component to its negative, again and again. */
    private static void downhill(int level) {
        GradientCompiler g = new GradientCompiler();
        g.level(level);
        g.node(0, 0, 0);
        g.node(4, 0, 0);
        g.node(5, 1, 0);
        g.set(0, 0, 9);
        g.set(3, 0, -4);
        for (int k = 1; k <= 5; k++) {
            int sign = k % 2 == 0 ? 1 : -1;
            Check.due("step " + k, g.step(2, 0, 0, 1), true);
            inputs("after step " + k, g, 0, 0, 9 * sign, 0, 0, -4 * sign);
            Check.due("value after step " + k, g.value(2, 0, 0), 97);
        }
    }

    private static void levels() {
        GradientCompiler g = ring(2);
        for (int k : new int[] {MIN, -1, 3, 4, MAX}) {
            Check.due("level " + k, g.level(k), false);
            Check.due("value after level " + k, g.value(3, 0, 0), 4104);
        }
        for (int k : new int[] {0, 2, 1, 0, 1, 2, 2, 0, 0}) {
            Check.due("level " + k, g.level(k), true);
            Check.due("nodes at level " + k, g.isVector(3), 0);
            Check.due("input at level " + k, g.input(4, 0), start(4, 0));
            Check.due("value at level " + k, g.value(3, 0, 0), 4104);
            Check.due("slope at level " + k, g.slope(3, 4, 0), 76);
            Check.due("bend at level " + k, g.bend(3, 4, 5, 0), 1);
            Check.due("slopeOfAll at level " + k, g.slopeOfAll(3, 4), 76 + 276 + 476);
        }
        setBetweenLevels();
    }

    /** What one level has kept must not be taken for true at another one after the inputs have moved. */
    private static void setBetweenLevels() {
        for (int low = 0; low < 3; low++) {
            for (int high = 0; high < 3; high++) {
                GradientCompiler g = ring(high);
                Check.due("value first", g.value(3, 0, 0), 4104);
                g.level(low);
                g.set(4, 0, 0);
                Check.due("value at the other level", g.value(2, 0, 0), 0);
                g.set(4, 0, 1);
                g.level(high);
                Check.due("value back again", g.value(3, 0, 0), 26 + 26 * 37 + 37 * 50 + 50);
                Check.due("slope back again", g.slope(3, 5, 0), 38);
            }
        }
    }
}
