/**
 * 'Terms', and the sentence on the number of calls: each sentence that names a boundary case has a test of its
 * own here, at every level. What the calls do with wrong arguments is in PromisesTest.
 */
public final class TermsTest {
    private static final int BAD = -1;
    private static final int FULL = -2;
    private static final int MIN = Bench.MIN;
    private static final int MAX = Bench.MAX;

    public static void main(String[] args) {
        Check.sentence("at most 512 calls: values", TermsTest::valuesUpToTheLastCall);
        Check.sentence("at most 512 calls: nodes", TermsTest::nodesUpToTheLastCall);
        Check.sentence("at most 512 calls: steps", TermsTest::stepsUpToTheLastCall);
        Check.sentence("3 inputs of 4 components in 3 examples", TermsTest::inputsStandApart);
        Check.sentence("for each input and example, a direction", TermsTest::directionsStandApart);
        Check.sentence("all are 0 at first", TermsTest::zeroAtFirst);
        Check.sentence("arithmetic wraps: sums", TermsTest::sumsWrap);
        Check.sentence("arithmetic wraps: differences", TermsTest::differencesWrap);
        Check.sentence("arithmetic wraps: products", TermsTest::productsWrap);
        Check.sentence("arithmetic wraps: sums of components", TermsTest::sumsOfComponentsWrap);
        Check.sentence("arithmetic wraps: sums of the first components", TermsTest::runningSumsWrap);
        Check.sentence("arithmetic wraps: what is above 0", TermsTest::wrappedAboveZero);
        Check.sentence("arithmetic wraps: derivatives", TermsTest::slopesWrap);
        Check.sentence("arithmetic wraps: derivatives of second order", TermsTest::bendsWrap);
        Check.sentence("arithmetic wraps: along", TermsTest::alongsWrap);
        Check.sentence("arithmetic wraps: slopeOfAll", TermsTest::sumsOverExamplesWrap);
        Check.sentence("arithmetic wraps: step", TermsTest::stepsWrap);
        Check.sentence("up to 12 nodes, numbered from 0", TermsTest::twelveNodes);
        Check.sentence("up to 12 nodes: the last one", TermsTest::lastNodeOfEveryKind);
        Check.sentence("worked out from that example's inputs", TermsTest::examplesStandApart);
        Check.sentence("x and y are earlier nodes", TermsTest::earlierNodes);
        Check.sentence("0 input x (0 to 2)", TermsTest::inputNodes);
        Check.sentence("1 the int x", TermsTest::intNodes);
        Check.sentence("2, 3, 4 component by component, if both are vectors", TermsTest::twoVectors);
        Check.sentence("2, 3, 4 if one is a number, with that for every component", TermsTest::vectorAndNumber);
        Check.sentence("2, 3, 4 of two numbers: a number", TermsTest::twoNumbers);
        Check.sentence("5 the sum of the components", TermsTest::sumNodes);
        Check.sentence("6 component i is component (i + 1) & 3", TermsTest::turnedNodes);
        Check.sentence("7 component y (0 to 3)", TermsTest::componentNodes);
        Check.sentence("8 the number x for every component", TermsTest::spreadNodes);
        Check.sentence("9 what is above 0, else 0", TermsTest::aboveZeroNodes);
        Check.sentence("10 the sum of its components 0 to i", TermsTest::runningSumNodes);
        Check.sentence("derivative of input components 1 by itself, else 0", TermsTest::slopesOfInputs);
        Check.sentence("derivative of an int 0", TermsTest::slopesOfInts);
        Check.sentence("derivative of sums, differences, turned vectors and so on", TermsTest::slopesOfLinearKinds);
        Check.sentence("derivative of a product", TermsTest::slopesOfProducts);
        Check.sentence("derivative of kind 9 that of x where x is above 0, else 0", TermsTest::slopesAboveZero);
        Check.sentence("second order: by the second one of that by the first one", TermsTest::bendsByTwo);
        Check.sentence("second order: of a product", TermsTest::bendsOfProducts);
        Check.sentence("second order: of kind 9 where x is above 0, else 0", TermsTest::bendsAboveZero);
        Check.end();
    }

    private static void vector(String what, GradientCompiler g, int n, int... want) {
        Check.due(what + ": isVector", g.isVector(n), 1);
        for (int i = 0; i < 4; i++) {
            Check.due(what + ": component " + i, g.value(n, i, 0), want[i]);
        }
    }

    private static void number(String what, GradientCompiler g, int n, int want) {
        Check.due(what + ": isVector", g.isVector(n), 0);
        Check.due(what, g.value(n, 0, 0), want);
    }

    /** Node 1 is component 0 of input 0, and x stands there; node 0 is the input. */
    private static GradientCompiler withX(int level, int x) {
        GradientCompiler g = Bench.withInputs(level, x);
        g.node(0, 0, 0);
        g.node(7, 0, 0);
        return g;
    }

    private static void valuesUpToTheLastCall(int level) {
        GradientCompiler g = Bench.made(level);
        int calls = level == Bench.AS_NEW ? 0 : 1;
        g.node(0, 0, 0);
        g.node(4, 0, 0);
        g.node(5, 1, 0);
        for (calls += 3; calls + 2 <= 512; calls += 2) {
            g.set(1, 2, calls);
            Check.due("call " + (calls + 2), g.value(2, 0, 2), calls * calls);
        }
    }

    private static void nodesUpToTheLastCall(int level) {
        GradientCompiler g = Bench.made(level);
        int nodeCalls = level == Bench.AS_NEW ? 511 : 510;
        for (int k = 0; k < nodeCalls; k++) {
            Check.due("node call " + k, g.node(1, k, 0), k < 12 ? k : FULL);
        }
        Check.due("call 512", g.forget(), 12);
    }

    private static void stepsUpToTheLastCall(int level) {
        GradientCompiler g = withX(level, 5);
        g.node(4, 1, 1);
        // Down the square at rate 1, x goes to -x.
        for (int k = 0; k < 253; k++) {
            Check.due("step " + k, g.step(2, 0, 0, 1), true);
            Check.due("x after step " + k, g.input(0, 0), k % 2 == 0 ? -5 : 5);
        }
    }

    private static void inputsStandApart(int level) {
        GradientCompiler g = Bench.made(level);
        for (int input = 0; input < 3; input++) {
            g.node(0, input, 0);
        }
        for (int at = 0; at < 12; at++) {
            for (int example = 0; example < 3; example++) {
                g.set(at, example, Bench.mark(at, example));
            }
        }
        for (int at = 0; at < 12; at++) {
            for (int example = 0; example < 3; example++) {
                String place = "at " + at + " in example " + example;
                Check.due("input " + place, g.input(at, example), Bench.mark(at, example));
                Check.due("value " + place, g.value(at / 4, at % 4, example), Bench.mark(at, example));
                Check.due("direction " + place, g.along(at / 4, at % 4, example), 0);
            }
        }
    }

    private static void directionsStandApart(int level) {
        GradientCompiler g = Bench.made(level);
        for (int input = 0; input < 3; input++) {
            g.node(0, input, 0);
        }
        for (int at = 0; at < 12; at++) {
            for (int example = 0; example < 3; example++) {
                g.aim(at, example, Bench.mark(at, example));
            }
        }
        for (int at = 0; at < 12; at++) {
            for (int example = 0; example < 3; example++) {
                String place = "at " + at + " in example " + example;
                Check.due("direction " + place, g.along(at / 4, at % 4, example), Bench.mark(at, example));
                Check.due("input " + place, g.input(at, example), 0);
                Check.due("value " + place, g.value(at / 4, at % 4, example), 0);
            }
        }
    }

    private static void zeroAtFirst(int level) {
        GradientCompiler g = Bench.made(level);
        for (int input = 0; input < 3; input++) {
            g.node(0, input, 0);
        }
        for (int at = 0; at < 12; at++) {
            for (int example = 0; example < 3; example++) {
                String place = "at " + at + " in example " + example;
                Check.due("input " + place, g.input(at, example), 0);
                Check.due("value " + place, g.value(at / 4, at % 4, example), 0);
                Check.due("direction " + place, g.along(at / 4, at % 4, example), 0);
            }
        }
    }

    /** The kind of x and y: of two vectors, of two numbers, and of one of each, both ways. */
    private static void ofTwo(int level, int kind, int x, int y, int want) {
        GradientCompiler g = Bench.withInputs(level, x, 0, 0, 0, y);
        g.node(0, 0, 0);
        g.node(0, 1, 0);
        g.node(1, x, 0);
        g.node(1, y, 0);
        g.node(kind, 0, 1);
        g.node(kind, 2, 3);
        g.node(kind, 0, 3);
        g.node(kind, 2, 1);
        for (int n = 4; n < 8; n++) {
            Check.due("kind " + kind + " of " + x + " and " + y + ", node " + n, g.value(n, 0, 0), want);
        }
    }

    private static void sumsWrap(int level) {
        ofTwo(level, 2, MAX, 1, MIN);
        ofTwo(level, 2, MIN, -1, MAX);
        ofTwo(level, 2, MAX, MAX, -2);
        ofTwo(level, 2, MIN, MIN, 0);
    }

    private static void differencesWrap(int level) {
        ofTwo(level, 3, MIN, 1, MAX);
        ofTwo(level, 3, MAX, -1, MIN);
        ofTwo(level, 3, 0, MIN, MIN);
        ofTwo(level, 3, -2, MAX, MAX);
    }

    private static void productsWrap(int level) {
        ofTwo(level, 4, MAX, MAX, 1);
        ofTwo(level, 4, MIN, -1, MIN);
        ofTwo(level, 4, 65536, 65536, 0);
        ofTwo(level, 4, 46341, 46341, -2147479015);
        ofTwo(level, 4, 65536, -32768, MIN);
    }

    private static void sumOf(int level, int a, int b, int c, int d, int want) {
        GradientCompiler g = Bench.withInputs(level, a, b, c, d);
        g.node(0, 0, 0);
        g.node(5, 0, 0);
        number("the sum of " + a + ", " + b + ", " + c + ", " + d, g, 1, want);
    }

    private static void sumsOfComponentsWrap(int level) {
        sumOf(level, MAX, 1, 0, 0, MIN);
        sumOf(level, 0, 0, MIN, -1, MAX);
        sumOf(level, MAX, MAX, MAX, MAX, -4);
        sumOf(level, MIN, MIN, MIN, MIN, 0);
    }

    private static void runningSumsWrap(int level) {
        GradientCompiler g = Bench.withInputs(level, MAX, 1, -1, MIN);
        g.node(0, 0, 0);
        g.node(10, 0, 0);
        vector("sums of the first components", g, 1, MAX, MIN, MAX, -1);
    }

    /** What is above 0 is asked of the value after it has wrapped. */
    private static void wrappedAboveZero(int level) {
        GradientCompiler g = withX(level, MAX);
        g.node(1, 1, 0);
        g.node(2, 1, 2);
        g.node(9, 3, 0);
        number("MAX + 1, above 0", g, 4, 0);
        Check.due("its slope", g.slope(4, 0, 0), 0);
        g.set(0, 0, MIN);
        g.node(3, 1, 2);
        g.node(9, 5, 0);
        number("MIN - 1, above 0", g, 6, MAX);
        Check.due("its slope", g.slope(6, 0, 0), 1);
    }

    private static void slopesWrap(int level) {
        int[] xs = {MAX, MIN, 1 << 30, 46341};
        int[] ofSquare = {-2, 0, MIN, 92682};
        int[] ofCube = {3, 0, 0, -2147469749};
        for (int k = 0; k < xs.length; k++) {
            GradientCompiler g = withX(level, xs[k]);
            g.node(4, 1, 1);
            g.node(4, 2, 1);
            Check.due("slope of the square of " + xs[k], g.slope(2, 0, 0), ofSquare[k]);
            Check.due("slope of the cube of " + xs[k], g.slope(3, 0, 0), ofCube[k]);
        }
        GradientCompiler g = withX(level, 1);
        g.node(1, MAX, 0);
        g.node(4, 1, 2);
        g.node(2, 3, 3);
        g.node(1, MIN, 0);
        g.node(4, 1, 5);
        g.node(3, 2, 6);
        g.node(8, 3, 0);
        g.node(5, 8, 0);
        Check.due("slope of MAX * x + MAX * x", g.slope(4, 0, 0), -2);
        Check.due("slope of MAX - MIN * x", g.slope(7, 0, 0), MIN);
        Check.due("slope of the sum of four MAX * x", g.slope(9, 0, 0), -4);
    }

    private static void bendsWrap(int level) {
        int[] xs = {MAX, MIN, 1 << 30, 65536, 46341};
        int[] ofCube = {-6, 0, MIN, 393216, 278046};
        int[] ofFourth = {12, 0, 0, 0, 55596};
        for (int k = 0; k < xs.length; k++) {
            GradientCompiler g = withX(level, xs[k]);
            g.node(4, 1, 1);
            g.node(4, 2, 1);
            g.node(4, 2, 2);
            Check.due("bend of the cube of " + xs[k], g.bend(3, 0, 0, 0), ofCube[k]);
            Check.due("bend of the fourth power of " + xs[k], g.bend(4, 0, 0, 0), ofFourth[k]);
        }
    }

    private static void alongsWrap(int level) {
        GradientCompiler g = Bench.withInputs(level, MAX, 65536, 46341, MIN);
        g.node(0, 0, 0);
        g.node(5, 0, 0);
        g.node(4, 0, 0);
        int[] direction = {MAX, 32768, 46341, 1};
        for (int at = 0; at < 4; at++) {
            g.aim(at, 0, direction[at]);
        }
        int[] ofSquares = {2, 0, 9266, 0};
        for (int i = 0; i < 4; i++) {
            Check.due("along the square " + i, g.along(2, i, 0), ofSquares[i]);
        }
        Check.due("along the sum", g.along(1, 0, 0), MIN + 32768 + 46341);
    }

    private static void sumsOverExamplesWrap(int level) {
        GradientCompiler g = withX(level, 0);
        g.node(1, MAX, 0);
        g.node(4, 1, 2);
        g.node(1, MIN, 0);
        g.node(4, 1, 4);
        Check.due("MAX three times", g.slopeOfAll(3, 0), MAX - 2);
        Check.due("MIN three times", g.slopeOfAll(5, 0), MIN);
    }

    private static void stepTo(int level, int x, int factor, int rate, int want) {
        GradientCompiler g = withX(level, x);
        g.node(1, factor, 0);
        g.node(4, 1, 2);
        Check.due("step", g.step(3, 0, 0, rate), true);
        Check.due(x + " less " + rate + " times " + factor, g.input(0, 0), want);
    }

    private static void stepsWrap(int level) {
        stepTo(level, MIN, 1, 1, MAX);
        stepTo(level, MAX, 1, -1, MIN);
        stepTo(level, 0, 1, MIN, MIN);
        stepTo(level, 7, 65536, 65536, 7);
        stepTo(level, 0, MAX, MAX, -1);
        stepTo(level, MIN, MIN, -1, 0);
    }

    private static void twelveNodes(int level) {
        GradientCompiler g = Bench.made(level);
        for (int n = 0; n < 12; n++) {
            Check.due("isVector before node " + n, g.isVector(n), BAD);
            Check.due("node " + n, g.node(1, 50 + n, 0), n);
            Check.due("isVector after node " + n, g.isVector(n), 0);
        }
        Check.due("one more", g.node(1, 99, 0), FULL);
        Check.due("isVector(12)", g.isVector(12), BAD);
        for (int n = 0; n < 12; n++) {
            number("node " + n, g, n, 50 + n);
        }
    }

    /** Node 11 of a kind, over node 10, asked in the last example by the last place. */
    private static void lastNode(int level, int kind, int i, int value, int slope, int bend) {
        GradientCompiler g = Bench.made(level);
        g.set(11, 2, 3);
        g.aim(11, 2, 10);
        g.node(0, 2, 0);
        g.node(7, 0, 3);
        for (int n = 2; n < 10; n++) {
            g.node(1, 8, 0);
        }
        // The square of input 2, or of its component 3 where a number is due.
        int part = kind == 8 ? 1 : 0;
        Check.due("node 10", g.node(4, part, part), 10);
        int x = kind == 0 ? 2 : 10;
        int y = kind == 7 ? 3 : 10;
        Check.due("kind " + kind, g.node(kind, x, y), 11);
        Check.due("value of kind " + kind, g.value(11, i, 2), value);
        Check.due("along of kind " + kind, g.along(11, i, 2), 10 * slope);
        if (g.isVector(11) == 0) {
            Check.due("slope of kind " + kind, g.slope(11, 11, 2), slope);
            Check.due("bend of kind " + kind, g.bend(11, 11, 11, 2), bend);
            Check.due("slopeOfAll of kind " + kind, g.slopeOfAll(11, 11), slope);
            Check.due("step of kind " + kind, g.step(11, 2, 2, 1), true);
            Check.due("input after it", g.input(11, 2), 3 - slope);
        }
    }

    private static void lastNodeOfEveryKind(int level) {
        lastNode(level, 0, 3, 3, 1, 0);
        lastNode(level, 1, 0, 10, 0, 0);
        lastNode(level, 2, 3, 18, 12, 4);
        lastNode(level, 3, 3, 0, 0, 0);
        lastNode(level, 4, 3, 81, 108, 108);
        lastNode(level, 5, 0, 9, 6, 2);
        lastNode(level, 6, 2, 9, 6, 2);
        lastNode(level, 7, 0, 9, 6, 2);
        lastNode(level, 8, 3, 9, 6, 2);
        lastNode(level, 9, 3, 9, 6, 2);
        lastNode(level, 10, 3, 9, 6, 2);
    }

    private static void examplesStandApart(int level) {
        GradientCompiler g = withX(level, 2);
        g.set(0, 1, -3);
        g.set(0, 2, 5);
        g.node(4, 1, 1);
        g.node(4, 2, 1);
        g.node(9, 1, 0);
        int[] x = {2, -3, 5};
        for (int again = 0; again < 2; again++) {
            for (int example = 0; example < 3; example++) {
                String where = " in example " + example;
                int above = x[example] > 0 ? 1 : 0;
                Check.due("value" + where, g.value(3, 0, example), x[example] * x[example] * x[example]);
                Check.due("slope" + where, g.slope(3, 0, example), 3 * x[example] * x[example]);
                Check.due("bend" + where, g.bend(3, 0, 0, example), 6 * x[example]);
                Check.due("value above 0" + where, g.value(4, 0, example), above * x[example]);
                Check.due("slope above 0" + where, g.slope(4, 0, example), above);
            }
            x[1] = 4;
            g.set(0, 1, 4);
        }
    }

    private static void earlierNodes(int level) {
        int[] twoPartKinds = {2, 3, 4};
        int[] onePartKinds = {5, 6, 7, 9, 10};
        for (int count = 0; count < 12; count++) {
            GradientCompiler g = Bench.made(level);
            for (int n = 0; n < count; n++) {
                g.node(0, 0, 0);
            }
            int none = count;
            for (int kind = 2; kind <= 10; kind++) {
                Check.due("kind " + kind + " of itself as node " + count, g.node(kind, none, 0), BAD);
                Check.due("kind " + kind + " of a later one", g.node(kind, none + 1, 0), BAD);
                Check.due("kind " + kind + " of node -1", g.node(kind, -1, 0), BAD);
            }
            for (int kind : twoPartKinds) {
                Check.due("kind " + kind + " with itself as node " + count, g.node(kind, 0, none), BAD);
                Check.due("kind " + kind + " with a later one", g.node(kind, 0, none + 1), BAD);
                Check.due("kind " + kind + " with node -1", g.node(kind, 0, -1), BAD);
            }
            if (count > 0) {
                int kind = count % 2 == 0 ? twoPartKinds[count % 3] : onePartKinds[count % 5];
                Check.due("kind " + kind + " of the node before", g.node(kind, count - 1, kind == 7 ? 0 : count - 1), count);
            }
        }
    }

    private static void inputNodes(int level) {
        GradientCompiler g = Bench.made(level);
        for (int input : Bench.NO_INPUT) {
            Check.due("input " + input, g.node(0, input, 0), BAD);
        }
        for (int at = 0; at < 12; at++) {
            g.set(at, 0, 20 + at);
        }
        for (int input = 0; input < 3; input++) {
            int first = 20 + 4 * input;
            Check.due("input " + input, g.node(0, input, 0), input);
            vector("input " + input, g, input, first, first + 1, first + 2, first + 3);
        }
    }

    private static void intNodes(int level) {
        GradientCompiler g = Bench.made(level);
        int[] ints = {MIN, -12, -1, 0, 1, 3, 12, 1 << 30, MAX};
        for (int n = 0; n < ints.length; n++) {
            Check.due("the int " + ints[n], g.node(1, ints[n], 0), n);
            number("the int " + ints[n], g, n, ints[n]);
            Check.due("the int " + ints[n] + " in example 2", g.value(n, 0, 2), ints[n]);
        }
    }

    private static void twoVectors(int level) {
        GradientCompiler g = Bench.withInputs(level, 3, -2, 5, 0, 10, 20, -30, 40);
        g.node(0, 0, 0);
        g.node(0, 1, 0);
        g.node(2, 0, 1);
        g.node(3, 0, 1);
        g.node(4, 0, 1);
        g.node(3, 0, 0);
        vector("sum", g, 2, 13, 18, -25, 40);
        vector("difference", g, 3, -7, -22, 35, -40);
        vector("product", g, 4, 30, -40, -150, 0);
        vector("difference of one from itself", g, 5, 0, 0, 0, 0);
    }

    private static void vectorAndNumber(int level) {
        GradientCompiler g = Bench.withInputs(level, 3, -2, 5, 0);
        g.node(0, 0, 0);
        g.node(1, -7, 0);
        g.node(2, 0, 1);
        g.node(2, 1, 0);
        g.node(3, 0, 1);
        g.node(3, 1, 0);
        g.node(4, 0, 1);
        g.node(4, 1, 0);
        vector("vector + number", g, 2, -4, -9, -2, -7);
        vector("number + vector", g, 3, -4, -9, -2, -7);
        vector("vector - number", g, 4, 10, 5, 12, 7);
        vector("number - vector", g, 5, -10, -5, -12, -7);
        vector("vector * number", g, 6, -21, 14, -35, 0);
        vector("number * vector", g, 7, -21, 14, -35, 0);
    }

    private static void twoNumbers(int level) {
        GradientCompiler g = Bench.made(level);
        g.node(1, 6, 0);
        g.node(1, -7, 0);
        g.node(2, 0, 1);
        g.node(3, 0, 1);
        g.node(4, 0, 1);
        number("sum", g, 2, -1);
        number("difference", g, 3, 13);
        number("product", g, 4, -42);
        for (int n = 2; n < 5; n++) {
            Check.due("component 1 of a number", g.value(n, 1, 0), 0);
        }
    }

    private static void sumNodes(int level) {
        sumOf(level, 1, 20, 300, 4000, 4321);
        sumOf(level, 0, 0, 0, 0, 0);
        sumOf(level, 0, 0, 0, -5, -5);
        sumOf(level, -5, 0, 0, 0, -5);
    }

    private static void turnedNodes(int level) {
        GradientCompiler g = Bench.withInputs(level, 3, -2, 5, 7);
        g.node(0, 0, 0);
        for (int n = 0; n < 4; n++) {
            g.node(6, n, 0);
        }
        vector("turned once", g, 1, -2, 5, 7, 3);
        vector("turned twice", g, 2, 5, 7, 3, -2);
        vector("turned three times", g, 3, 7, 3, -2, 5);
        vector("turned four times", g, 4, 3, -2, 5, 7);
    }

    private static void componentNodes(int level) {
        GradientCompiler g = Bench.withInputs(level, 3, -2, 5, 7, 11);
        g.node(0, 0, 0);
        for (int y : Bench.NO_COMPONENT) {
            Check.due("component " + y, g.node(7, 0, y), BAD);
        }
        int[] want = {3, -2, 5, 7};
        for (int y = 0; y < 4; y++) {
            Check.due("component " + y, g.node(7, 0, y), 1 + y);
            number("component " + y, g, 1 + y, want[y]);
        }
    }

    private static void spreadNodes(int level) {
        GradientCompiler g = Bench.made(level);
        int[] ints = {MIN, 0, MAX};
        for (int k = 0; k < ints.length; k++) {
            g.node(1, ints[k], 0);
            g.node(8, 2 * k, 0);
            vector("spread " + ints[k], g, 2 * k + 1, ints[k], ints[k], ints[k], ints[k]);
        }
    }

    private static void aboveZeroNodes(int level) {
        int[] ints = {MIN, -1, 0, 1, MAX};
        int[] want = {0, 0, 0, 1, MAX};
        for (int k = 0; k < ints.length; k++) {
            GradientCompiler g = Bench.withInputs(level, 9, ints[k], -9, ints[k]);
            g.node(0, 0, 0);
            g.node(9, 0, 0);
            g.node(1, ints[k], 0);
            g.node(9, 2, 0);
            vector("vector with " + ints[k], g, 1, 9, want[k], 0, want[k]);
            number("number " + ints[k], g, 3, want[k]);
        }
    }

    private static void runningSumNodes(int level) {
        GradientCompiler g = Bench.withInputs(level, 1, 20, 300, 4000);
        g.node(0, 0, 0);
        g.node(10, 0, 0);
        vector("sums of the first components", g, 1, 1, 21, 321, 4321);
    }

    private static void slopesOfInputs(int level) {
        for (int input = 0; input < 3; input++) {
            GradientCompiler g = Bench.made(level);
            g.node(0, input, 0);
            for (int i = 0; i < 4; i++) {
                g.node(7, 0, i);
                for (int at = 0; at < 12; at++) {
                    String what = "component " + i + " of input " + input + " by " + at;
                    Check.due(what, g.slope(1 + i, at, 0), at == 4 * input + i ? 1 : 0);
                    Check.due(what + " twice", g.bend(1 + i, at, at, 0), 0);
                }
            }
        }
    }

    private static void slopesOfInts(int level) {
        for (int x : new int[] {MIN, -1, 0, 1, MAX}) {
            GradientCompiler g = Bench.made(level);
            g.node(1, x, 0);
            for (int at = 0; at < 12; at++) {
                g.aim(at, 0, 5);
                Check.due("the int " + x + " by " + at, g.slope(0, at, 0), 0);
                Check.due("the int " + x + " twice by " + at, g.bend(0, at, at, 0), 0);
                Check.due("the int " + x + " in all by " + at, g.slopeOfAll(0, at), 0);
            }
            Check.due("along the int " + x, g.along(0, 0, 0), 0);
        }
    }

    /** Node 1 holds the squares of 2, -3, 5, 7; node 2 is that turned, node 3 its component 2. */
    private static GradientCompiler squares(int level) {
        GradientCompiler g = Bench.withInputs(level, 2, -3, 5, 7);
        g.node(0, 0, 0);
        g.node(4, 0, 0);
        g.node(6, 1, 0);
        g.node(7, 1, 2);
        return g;
    }

    /** Component i of node 4, a vector, has rows[4 * i + j] times square j in it. */
    private static void linear(String what, GradientCompiler g, int... rows) {
        int[] x = {2, -3, 5, 7};
        for (int i = 0; i < 4; i++) {
            int n = g.node(7, 4, i);
            for (int j = 0; j < 4; j++) {
                int row = rows[4 * i + j];
                String where = what + ", component " + i + " by " + j;
                Check.due(where, g.slope(n, j, 0), 2 * x[j] * row);
                for (int k = 0; k < 4; k++) {
                    Check.due(where + " and " + k, g.bend(n, j, k, 0), j == k ? 2 * row : 0);
                }
            }
        }
    }

    private static void slopesOfLinearKinds(int level) {
        GradientCompiler g = squares(level);
        g.node(2, 1, 2);
        linear("sum with the turned", g, 1, 1, 0, 0, 0, 1, 1, 0, 0, 0, 1, 1, 1, 0, 0, 1);
        g = squares(level);
        g.node(3, 1, 2);
        linear("difference from the turned", g, 1, -1, 0, 0, 0, 1, -1, 0, 0, 0, 1, -1, -1, 0, 0, 1);
        g = squares(level);
        g.node(3, 3, 1);
        linear("number less vector", g, -1, 0, 1, 0, 0, -1, 1, 0, 0, 0, 0, 0, 0, 0, 1, -1);
        g = squares(level);
        g.node(2, 1, 3);
        linear("vector and number", g, 1, 0, 1, 0, 0, 1, 1, 0, 0, 0, 2, 0, 0, 0, 1, 1);
        g = squares(level);
        g.node(6, 1, 0);
        linear("turned", g, 0, 1, 0, 0, 0, 0, 1, 0, 0, 0, 0, 1, 1, 0, 0, 0);
        g = squares(level);
        g.node(8, 3, 0);
        linear("component 2 for every component", g, 0, 0, 1, 0, 0, 0, 1, 0, 0, 0, 1, 0, 0, 0, 1, 0);
        g = squares(level);
        g.node(10, 1, 0);
        linear("sums of the first components", g, 1, 0, 0, 0, 1, 1, 0, 0, 1, 1, 1, 0, 1, 1, 1, 1);
        sumOfSquares(level);
    }

    private static void sumOfSquares(int level) {
        GradientCompiler g = squares(level);
        g.node(5, 1, 0);
        int[] x = {2, -3, 5, 7};
        for (int j = 0; j < 4; j++) {
            Check.due("sum of squares by " + j, g.slope(4, j, 0), 2 * x[j]);
            for (int k = 0; k < 4; k++) {
                Check.due("sum of squares by " + j + " and " + k, g.bend(4, j, k, 0), j == k ? 2 : 0);
            }
        }
    }

    /** Node 4 is x * y: x is component 0 of input 0, y is component 3 of input 2. */
    private static GradientCompiler product(int level, int x, int y) {
        GradientCompiler g = withX(level, x);
        g.set(11, 0, y);
        g.node(0, 2, 0);
        g.node(7, 2, 3);
        g.node(4, 1, 3);
        return g;
    }

    private static void slopesOfProducts(int level) {
        int[] ints = {-4, 0, 6};
        for (int x : ints) {
            for (int y : ints) {
                GradientCompiler g = product(level, x, y);
                g.node(4, 0, 2);
                g.node(7, 5, 3);
                g.node(4, 1, 1);
                g.node(4, 1, 2);
                g.node(7, 8, 3);
                g.node(4, 2, 1);
                g.node(7, 10, 3);
                String of = " of " + x + " and " + y;
                Check.due("x * y by x" + of, g.slope(4, 0, 0), y);
                Check.due("x * y by y" + of, g.slope(4, 11, 0), x);
                Check.due("x * y by another" + of, g.slope(4, 3, 0), 0);
                Check.due("vector product by y, where the other is 0" + of, g.slope(6, 11, 0), 0);
                Check.due("vector product by the component that is 0" + of, g.slope(6, 3, 0), y);
                Check.due("x * x by x" + of, g.slope(7, 0, 0), 2 * x);
                Check.due("number * vector by x" + of, g.slope(9, 0, 0), y);
                Check.due("number * vector by y" + of, g.slope(9, 11, 0), x);
                Check.due("vector * number by x" + of, g.slope(11, 0, 0), y);
                Check.due("vector * number by y" + of, g.slope(11, 11, 0), x);
            }
        }
    }

    private static void slopesAboveZero(int level) {
        int[] ints = {MIN, -1, 0, 1, MAX};
        for (int x : ints) {
            GradientCompiler g = withX(level, x);
            g.node(9, 0, 0);
            g.node(7, 2, 0);
            g.node(9, 1, 0);
            g.aim(0, 0, -6);
            int open = x > 0 ? 1 : 0;
            Check.due("vector with " + x, g.slope(3, 0, 0), open);
            Check.due("vector with " + x + " by another", g.slope(3, 1, 0), 0);
            Check.due("number " + x, g.slope(4, 0, 0), open);
            Check.due("along the vector with " + x, g.along(2, 0, 0), -6 * open);
            Check.due("along the number " + x, g.along(4, 0, 0), -6 * open);
        }
        // The derivative may be below 0, if only the value is above 0.
        GradientCompiler g = withX(level, -5);
        g.node(4, 1, 1);
        g.node(9, 2, 0);
        Check.due("square of -5 above 0", g.slope(3, 0, 0), -10);
    }

    private static void bendsByTwo(int level) {
        GradientCompiler g = product(level, 3, 5);
        // x * x * y
        g.node(4, 4, 1);
        Check.due("by x, then x", g.bend(5, 0, 0, 0), 10);
        Check.due("by x, then y", g.bend(5, 0, 11, 0), 6);
        Check.due("by y, then x", g.bend(5, 11, 0, 0), 6);
        Check.due("by y, then y", g.bend(5, 11, 11, 0), 0);
        Check.due("by x, then another", g.bend(5, 0, 1, 0), 0);
        Check.due("by another, then x", g.bend(5, 10, 0, 0), 0);
    }

    private static void bendsOfProducts(int level) {
        int[] ints = {-4, 0, 6};
        for (int x : ints) {
            for (int y : ints) {
                GradientCompiler g = product(level, x, y);
                g.node(4, 4, 4);
                g.node(4, 4, 1);
                g.node(4, 3, 6);
                String of = " of " + x + " and " + y;
                Check.due("x * y by x, y" + of, g.bend(4, 0, 11, 0), 1);
                Check.due("x * y by y, x" + of, g.bend(4, 11, 0, 0), 1);
                Check.due("x * y by x, x" + of, g.bend(4, 0, 0, 0), 0);
                Check.due("(x * y) * (x * y) by x, x" + of, g.bend(5, 0, 0, 0), 2 * y * y);
                Check.due("(x * y) * (x * y) by x, y" + of, g.bend(5, 0, 11, 0), 4 * x * y);
                Check.due("(x * y) * x by x, x" + of, g.bend(6, 0, 0, 0), 2 * y);
                Check.due("(x * y) * x by y, x" + of, g.bend(6, 11, 0, 0), 2 * x);
                Check.due("y * (x * y * x) by x, x" + of, g.bend(7, 0, 0, 0), 2 * y * y);
                Check.due("y * (x * y * x) by y, y" + of, g.bend(7, 11, 11, 0), 2 * x * x);
            }
        }
    }

    private static void bendsAboveZero(int level) {
        int[] ints = {MIN, -1, 0, 1, MAX};
        for (int x : ints) {
            GradientCompiler g = product(level, x, 1);
            g.node(9, 4, 0);
            g.node(8, 4, 0);
            g.node(9, 6, 0);
            g.node(7, 7, 2);
            int open = x > 0 ? 1 : 0;
            Check.due("x * y itself, of " + x, g.bend(4, 0, 11, 0), 1);
            Check.due("number above 0, of " + x, g.bend(5, 0, 11, 0), open);
            Check.due("number above 0 by y, x, of " + x, g.bend(5, 11, 0, 0), open);
            Check.due("vector above 0, of " + x, g.bend(8, 0, 11, 0), open);
        }
    }
}
