/** Promises 8 to 12: value, slope, bend, along and slopeOfAll, on runs worked out by hand, at every level. */
public final class DerivativesTest {
    private static final int MIN = Integer.MIN_VALUE;
    private static final int MAX = Integer.MAX_VALUE;
    private static final int[] NO_NODE = {MIN, -1, 12, MAX};
    private static final int[] NO_PLACE = {MIN, -1, 12, MAX};
    private static final int[] NO_EXAMPLE = {MIN, -1, 3, MAX};

    public static void main(String[] args) {
        for (int level = 0; level < 3; level++) {
            valuesOfEveryKind(level);
            wrappedValues(level);
            slopesOfEveryKind(level);
            bends(level);
            aboveZeroEdge(level);
            wrappedAboveZero(level);
            alongs(level);
            sumsOverExamples(level);
            wrongArguments(level);
        }
        Check.end();
    }

    private static GradientCompiler withInputs(int level, int... components) {
        GradientCompiler g = new GradientCompiler();
        g.level(level);
        for (int at = 0; at < components.length; at++) {
            g.set(at, 0, components[at]);
        }
        return g;
    }

    private static void vector(String what, GradientCompiler g, int n, int... want) {
        for (int i = 0; i < 4; i++) {
            Check.due(what + " " + i, g.value(n, i, 0), want[i]);
        }
    }

    private static void slopes(String what, GradientCompiler g, int n, int... want) {
        for (int at = 0; at < 12; at++) {
            Check.due(what + " by " + at, g.slope(n, at, 0), at < want.length ? want[at] : 0);
        }
    }

    private static void valuesOfEveryKind(int level) {
        GradientCompiler g = withInputs(level, 3, -2, 5, 0, 10, 20, 30, 40);
        g.node(0, 0, 0);
        g.node(0, 1, 0);
        g.node(1, -6, 0);
        g.node(2, 0, 1);
        g.node(3, 0, 1);
        g.node(4, 0, 1);
        g.node(5, 0, 0);
        g.node(6, 0, 0);
        g.node(7, 1, 2);
        g.node(8, 2, 0);
        g.node(9, 0, 0);
        g.node(10, 0, 0);
        vector("input", g, 0, 3, -2, 5, 0);
        Check.due("int", g.value(2, 0, 0), -6);
        vector("sum of two", g, 3, 13, 18, 35, 40);
        vector("difference", g, 4, -7, -22, -25, -40);
        vector("product", g, 5, 30, -40, 150, 0);
        Check.due("sum of components", g.value(6, 0, 0), 6);
        vector("turned", g, 7, -2, 5, 0, 3);
        Check.due("component", g.value(8, 0, 0), 30);
        vector("spread", g, 9, -6, -6, -6, -6);
        vector("above 0", g, 10, 3, 0, 5, 0);
        vector("running sum", g, 11, 3, 1, 6, 6);
        Check.due("int in another example", g.value(2, 0, 2), -6);
        Check.due("input in another example", g.value(0, 0, 2), 0);
    }

    private static void wrappedValues(int level) {
        GradientCompiler g = withInputs(level, MAX, MAX, MIN, 65536);
        g.node(0, 0, 0);
        g.node(2, 0, 0);
        g.node(4, 0, 0);
        g.node(10, 0, 0);
        g.node(5, 0, 0);
        g.node(1, 1, 0);
        g.node(3, 0, 5);
        vector("wrapped sum", g, 1, -2, -2, 0, 131072);
        vector("wrapped product", g, 2, 1, 1, 0, 0);
        vector("wrapped running sum", g, 3, MAX, -2, MAX - 1, MIN + 65534);
        Check.due("wrapped sum of components", g.value(4, 0, 0), MIN + 65534);
        vector("wrapped difference", g, 6, MAX - 1, MAX - 1, MAX, 65535);
    }

    private static void slopesOfEveryKind(int level) {
        GradientCompiler g = withInputs(level, 3, -2, 5, 0, 10, 20, 30, 40);
        g.node(0, 0, 0);
        g.node(0, 1, 0);
        g.node(4, 0, 1);
        g.node(5, 2, 0);
        g.node(6, 2, 0);
        g.node(7, 4, 3);
        g.node(10, 2, 0);
        g.node(7, 6, 1);
        g.node(5, 6, 0);
        g.node(9, 0, 0);
        g.node(5, 9, 0);
        slopes("dot product", g, 3, 10, 20, 30, 40, 3, -2, 5, 0);
        slopes("component 3 of the turned", g, 5, 10, 0, 0, 0, 3);
        slopes("component 1 of the running sum", g, 7, 10, 20, 0, 0, 3, -2);
        slopes("sum of the running sum", g, 8, 40, 60, 60, 40, 12, -6, 10, 0);
        slopes("sum above 0", g, 10, 1, 0, 1, 0);
        spreadAndDifference(level);
    }

    private static void spreadAndDifference(int level) {
        GradientCompiler g = withInputs(level, 3, -2, 5, 7);
        g.node(0, 0, 0);
        g.node(7, 0, 0);
        g.node(8, 1, 0);
        g.node(4, 2, 0);
        g.node(5, 3, 0);
        g.node(1, 9, 0);
        g.node(3, 5, 4);
        slopes("component 0 times the sum", g, 4, 16, 3, 3, 3);
        slopes("an int", g, 5);
        slopes("an int less that", g, 6, -16, -3, -3, -3);
        Check.due("slope of a vector", g.slope(3, 0, 0), 0);
    }

    private static void bends(int level) {
        // p = x0 * y1, then p * p: first order 2p * p', second order 2p' * p' + 2p * p''.
        GradientCompiler g = withInputs(level, 3, 0, 0, 0, 0, 5, 0, 0);
        g.node(0, 0, 0);
        g.node(0, 1, 0);
        g.node(7, 0, 0);
        g.node(7, 1, 1);
        g.node(4, 2, 3);
        g.node(4, 4, 4);
        g.node(4, 5, 2);
        Check.due("xy by x, y", g.bend(4, 0, 5, 0), 1);
        Check.due("xy by y, x", g.bend(4, 5, 0, 0), 1);
        Check.due("xy by x, x", g.bend(4, 0, 0, 0), 0);
        Check.due("xy by x, another", g.bend(4, 0, 4, 0), 0);
        Check.due("xxyy by x, x", g.bend(5, 0, 0, 0), 50);
        Check.due("xxyy by y, y", g.bend(5, 5, 5, 0), 18);
        Check.due("xxyy by x, y", g.bend(5, 0, 5, 0), 60);
        Check.due("xxyy by y, x", g.bend(5, 5, 0, 0), 60);
        Check.due("xxxyy by x, x", g.bend(6, 0, 0, 0), 450);
        Check.due("xxxyy by x, y", g.bend(6, 0, 5, 0), 270);
        Check.due("xxxyy by y, y", g.bend(6, 5, 5, 0), 54);
        Check.due("xxyy in another example", g.bend(5, 0, 0, 1), 0);
        Check.due("of a part without y by y", g.bend(2, 5, 5, 0), 0);
        Check.due("of a vector", g.bend(0, 0, 0, 0), 0);
        bendsThroughLinearKinds(level);
    }

    private static void bendsThroughLinearKinds(int level) {
        GradientCompiler g = withInputs(level, 1, 2, 3, 4);
        g.node(0, 0, 0);
        g.node(4, 0, 0);
        g.node(10, 1, 0);
        g.node(6, 2, 0);
        g.node(7, 3, 1);
        g.node(8, 4, 0);
        g.node(3, 0, 5);
        g.node(5, 6, 0);
        g.node(2, 7, 4);
        int[] doubled = {1, 1, 1, 0};
        for (int at = 0; at < 4; at++) {
            for (int by = 0; by < 4; by++) {
                int one = at == by ? doubled[at] : 0;
                Check.due("component of squares by " + at + ", " + by, g.bend(4, at, by, 0), 2 * one);
                Check.due("difference from squares by " + at + ", " + by, g.bend(7, at, by, 0), -8 * one);
                Check.due("both by " + at + ", " + by, g.bend(8, at, by, 0), -6 * one);
            }
        }
    }

    private static void aboveZeroEdge(int level) {
        int[] inputs = {-1, 0, 1};
        for (int x : inputs) {
            GradientCompiler g = withInputs(level, x, 3);
            int open = x > 0 ? 1 : 0;
            g.node(0, 0, 0);
            g.node(9, 0, 0);
            g.node(7, 1, 0);
            g.node(7, 0, 0);
            g.node(9, 3, 0);
            g.node(7, 0, 1);
            g.node(4, 5, 5);
            g.node(4, 6, 3);
            g.node(9, 7, 0);
            g.aim(0, 0, 10);
            Check.due("vector part above 0 of " + x, g.value(2, 0, 0), open * x);
            Check.due("number above 0 of " + x, g.value(4, 0, 0), open * x);
            Check.due("slope of vector part above 0 of " + x, g.slope(2, 0, 0), open);
            Check.due("slope of number above 0 of " + x, g.slope(4, 0, 0), open);
            Check.due("along above 0 of " + x, g.along(1, 0, 0), 10 * open);
            Check.due("slope of the gated 9x by y", g.slope(8, 1, 0), 6 * x * open);
            Check.due("bend of the gated 9x by y, y", g.bend(8, 1, 1, 0), 2 * x * open);
            Check.due("bend of the gated 9x by x, y", g.bend(8, 0, 1, 0), 6 * open);
            Check.due("bend of the open 9x by x, y", g.bend(7, 0, 1, 0), 6);
        }
    }

    /** A square that wraps below 0 is not above 0, though the true one is. */
    private static void wrappedAboveZero(int level) {
        GradientCompiler g = withInputs(level, 46341, 46340);
        g.node(0, 0, 0);
        g.node(4, 0, 0);
        g.node(9, 1, 0);
        g.node(5, 2, 0);
        Check.due("wrapped square", g.value(1, 0, 0), 46341 * 46341);
        Check.due("wrapped square above 0", g.value(2, 0, 0), 0);
        Check.due("square above 0", g.value(2, 1, 0), 46340 * 46340);
        slopes("squares above 0", g, 3, 0, 92680);
        Check.due("bend of the wrapped", g.bend(3, 0, 0, 0), 0);
        Check.due("bend of the other", g.bend(3, 1, 1, 0), 2);
        // A derivative below 0 passes: the gate looks at the value alone.
        g.set(0, 0, -4);
        slopes("squares above 0", g, 3, -8, 92680);
    }

    private static void alongs(int level) {
        GradientCompiler g = withInputs(level, 1, 2, 3, 4, 5, 6, 7, 8);
        int[] direction = {1, -1, 2, 0, 3, 0, 0, -2, 50, 50, 50, 50};
        for (int at = 0; at < 12; at++) {
            g.aim(at, 0, direction[at]);
            g.aim(at, 1, 1000);
        }
        g.node(0, 0, 0);
        g.node(0, 1, 0);
        g.node(4, 0, 1);
        g.node(5, 2, 0);
        g.node(4, 3, 3);
        g.node(1, 4, 0);
        int[] product = {8, -6, 14, -8};
        for (int i = 0; i < 4; i++) {
            Check.due("along input 0, " + i, g.along(0, i, 0), direction[i]);
            Check.due("along the product, " + i, g.along(2, i, 0), product[i]);
        }
        Check.due("along the sum", g.along(3, 0, 0), 8);
        Check.due("along its square", g.along(4, 0, 0), 2 * 70 * 8);
        Check.due("along an int", g.along(5, 0, 0), 0);
        Check.due("along the product in example 1", g.along(2, 0, 1), 0);
        Check.due("along the input in example 1", g.along(0, 0, 1), 1000);
        g.aim(0, 0, MAX);
        g.aim(4, 0, MIN);
        Check.due("wrapped along", g.along(2, 0, 0), 5 * MAX + MIN);
    }

    private static void sumsOverExamples(int level) {
        GradientCompiler g = withInputs(level);
        g.node(0, 2, 0);
        g.node(7, 0, 1);
        g.node(4, 1, 1);
        g.node(9, 1, 0);
        g.node(1, 5, 0);
        int[] inputs = {3, -10, 4};
        for (int example = 0; example < 3; example++) {
            g.set(9, example, inputs[example]);
        }
        Check.due("squares", g.slopeOfAll(2, 9), -6);
        Check.due("above 0", g.slopeOfAll(3, 9), 2);
        Check.due("component", g.slopeOfAll(1, 9), 3);
        Check.due("by another place", g.slopeOfAll(2, 8), 0);
        Check.due("int", g.slopeOfAll(4, 9), 0);
        g.set(9, 1, MAX);
        Check.due("wrapped", g.slopeOfAll(2, 9), 12);
    }

    /** A program with an answer other than 0 for every good call: node 0 is a vector, node 2 a number. */
    private static void wrongArguments(int level) {
        GradientCompiler g = withInputs(level);
        for (int example = 0; example < 3; example++) {
            for (int at = 0; at < 12; at++) {
                g.set(at, example, 7);
                g.aim(at, example, 11);
            }
        }
        g.node(0, 0, 0);
        g.node(5, 0, 0);
        g.node(4, 1, 1);
        g.node(4, 0, 0);
        Check.due("good value", g.value(0, 3, 2), 7);
        Check.due("good number", g.value(2, 0, 0), 784);
        Check.due("good slope", g.slope(2, 3, 2), 56);
        Check.due("good bend", g.bend(2, 0, 3, 2), 2);
        Check.due("good along", g.along(3, 3, 2), 154);
        Check.due("good slopeOfAll", g.slopeOfAll(2, 0), 168);
        int[] noNodeHere = {MIN, -1, 4, 11, 12, MAX};
        for (int n : noNodeHere) {
            noAnswer(g, n, 0, 0, 0, 0);
            Check.due("slopeOfAll of node " + n, g.slopeOfAll(n, 0), 0);
        }
        for (int i : new int[] {MIN, -1, 4, 5, MAX}) {
            Check.due("value of component " + i, g.value(0, i, 0), 0);
            Check.due("along of component " + i, g.along(3, i, 0), 0);
        }
        for (int i : new int[] {MIN, -1, 1, 2, 3, 4, MAX}) {
            Check.due("value of a number's component " + i, g.value(2, i, 0), 0);
            Check.due("along of a number's component " + i, g.along(2, i, 0), 0);
        }
        for (int at : NO_PLACE) {
            Check.due("slope by " + at, g.slope(2, at, 0), 0);
            Check.due("bend by " + at + ", 0", g.bend(2, at, 0, 0), 0);
            Check.due("bend by 0, " + at, g.bend(2, 0, at, 0), 0);
            Check.due("bend by both " + at, g.bend(2, at, at, 0), 0);
            Check.due("slopeOfAll by " + at, g.slopeOfAll(2, at), 0);
        }
        for (int example : NO_EXAMPLE) {
            noAnswer(g, 2, 0, 0, 0, example);
        }
        for (int n : NO_NODE) {
            noAnswer(g, n, MIN, MAX, -1, -1);
        }
        Check.due("slope of a vector", g.slope(3, 0, 0), 0);
        Check.due("bend of a vector", g.bend(3, 0, 0, 0), 0);
        Check.due("slopeOfAll of a vector", g.slopeOfAll(3, 0), 0);
    }

    private static void noAnswer(GradientCompiler g, int n, int i, int at, int by, int example) {
        String where = " of node " + n + " in example " + example;
        Check.due("value" + where, g.value(n, i, example), 0);
        Check.due("slope" + where, g.slope(n, at, example), 0);
        Check.due("bend" + where, g.bend(n, at, by, example), 0);
        Check.due("along" + where, g.along(n, i, example), 0);
    }
}
