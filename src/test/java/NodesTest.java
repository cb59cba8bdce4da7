/** Promises 1, 2, 3, 7 and 15: a new object, node, forget, isVector, and which parts the kinds take. */
public final class NodesTest {
    private static final int BAD = -1;
    private static final int FULL = -2;
    private static final int WRONG = -3;
    private static final int MIN = Integer.MIN_VALUE;
    private static final int MAX = Integer.MAX_VALUE;

    public static void main(String[] args) {
        newObject();
        kindsOutOfRange();
        operandsThatMustBeThere();
        operandsThatPlayNoPart();
        wrongParts();
        orderOfTheTests();
        refusedNodesLeaveNoTrace();
        mixedParts();
        forgetting();
        isVectorEdges();
        Check.end();
    }

    /** Node 0 is a vector, node 1 a number. */
    private static GradientCompiler vectorAndNumber() {
        GradientCompiler g = new GradientCompiler();
        Check.due("node(0, 0, 0)", g.node(0, 0, 0), 0);
        Check.due("node(1, 7, 0)", g.node(1, 7, 0), 1);
        return g;
    }

    private static void newObject() {
        GradientCompiler g = new GradientCompiler();
        Check.due("forget of a new object", g.forget(), 0);
        Check.due("isVector(0) of a new object", g.isVector(0), BAD);
        for (int example = 0; example < 3; example++) {
            for (int at = 0; at < 12; at++) {
                Check.due("new input " + at + ", " + example, g.input(at, example), 0);
            }
        }
        for (int k = 0; k < 3; k++) {
            Check.due("first nodes", g.node(0, k, 0), k);
        }
        for (int n = 0; n < 12; n++) {
            Check.due("new direction " + n, g.along(n / 4, n % 4, n % 3), 0);
        }
    }

    private static void kindsOutOfRange() {
        GradientCompiler g = vectorAndNumber();
        for (int kind : new int[] {MIN, -2, -1, 11, 12, 16, 256, MAX}) {
            Check.due("kind " + kind, g.node(kind, 0, 0), BAD);
        }
        Check.due("nodes after bad kinds", g.forget(), 2);
    }

    private static void operandsThatMustBeThere() {
        int[] outside = {MIN, -1, 2, 3, 11, 12, MAX};
        GradientCompiler g = vectorAndNumber();
        for (int input : new int[] {MIN, -1, 3, 4, MAX}) {
            Check.due("input " + input, g.node(0, input, 0), BAD);
        }
        for (int kind = 2; kind <= 10; kind++) {
            for (int n : outside) {
                Check.due("kind " + kind + " of x " + n, g.node(kind, n, 0), BAD);
            }
        }
        for (int kind = 2; kind <= 4; kind++) {
            for (int n : outside) {
                Check.due("kind " + kind + " of y " + n, g.node(kind, 0, n), BAD);
            }
        }
        for (int y : new int[] {MIN, -1, 4, 5, MAX}) {
            Check.due("component " + y, g.node(7, 0, y), BAD);
        }
        for (int y = 0; y < 4; y++) {
            Check.due("component " + y, g.node(7, 0, y), 2 + y);
        }
        Check.due("nodes after bad operands", g.forget(), 6);
        Check.due("no earlier node", g.node(9, 0, 0), BAD);
    }

    private static void operandsThatPlayNoPart() {
        for (int y : new int[] {MIN, -1, 4, 99, MAX}) {
            GradientCompiler g = new GradientCompiler();
            Check.due("kind 0 with y " + y, g.node(0, 2, y), 0);
            Check.due("kind 1 with y " + y, g.node(1, MIN, y), 1);
            Check.due("kind 5 with y " + y, g.node(5, 0, y), 2);
            Check.due("kind 6 with y " + y, g.node(6, 0, y), 3);
            Check.due("kind 8 with y " + y, g.node(8, 1, y), 4);
            Check.due("kind 9 with y " + y, g.node(9, 0, y), 5);
            Check.due("kind 10 with y " + y, g.node(10, 0, y), 6);
            g.set(8, 0, 3);
            g.set(9, 0, -1);
            Check.due("input node", g.value(0, 0, 0), 3);
            Check.due("int node", g.value(1, 0, 0), MIN);
            Check.due("sum node", g.value(2, 0, 0), 2);
            Check.due("turned node", g.value(3, 0, 0), -1);
            Check.due("spread node", g.value(4, 3, 0), MIN);
            Check.due("above-0 node", g.value(5, 1, 0), 0);
            Check.due("running sum node", g.value(6, 3, 0), 2);
            Check.due("sum node by 9", g.slope(2, 9, 0), 1);
            Check.due("sum node by 9 and 8", g.bend(2, 9, 8, 0), 0);
        }
    }

    private static void wrongParts() {
        GradientCompiler g = vectorAndNumber();
        for (int kind : new int[] {5, 6, 7, 10}) {
            Check.due("kind " + kind + " of a number", g.node(kind, 1, 0), WRONG);
        }
        Check.due("kind 8 of a vector", g.node(8, 0, 0), WRONG);
        Check.due("nodes after wrong parts", g.forget(), 2);

        g = vectorAndNumber();
        Check.due("kind 5 of a vector", g.node(5, 0, 0), 2);
        Check.due("kind 6 of a vector", g.node(6, 0, 0), 3);
        Check.due("kind 7 of a vector", g.node(7, 0, 0), 4);
        Check.due("kind 8 of a number", g.node(8, 1, 0), 5);
        Check.due("kind 9 of a vector", g.node(9, 0, 0), 6);
        Check.due("kind 9 of a number", g.node(9, 1, 0), 7);
        Check.due("kind 10 of a vector", g.node(10, 0, 0), 8);
        int[] vector = {1, 0, 0, 1, 0, 1, 1, 0, 1};
        for (int n = 0; n < vector.length; n++) {
            Check.due("isVector(" + n + ")", g.isVector(n), vector[n]);
        }
    }

    private static void orderOfTheTests() {
        GradientCompiler g = vectorAndNumber();
        Check.due("BAD goes before WRONG", g.node(7, 1, 4), BAD);
        Check.due("BAD goes before WRONG", g.node(7, 1, -1), BAD);
        for (int n = 2; n < 12; n++) {
            Check.due("node " + n, g.node(1, n, 0), n);
        }
        Check.due("FULL goes before BAD: kind", g.node(-1, 0, 0), FULL);
        Check.due("FULL goes before BAD: x", g.node(0, 3, 0), FULL);
        Check.due("FULL goes before BAD: y", g.node(7, 0, 4), FULL);
        Check.due("FULL goes before WRONG", g.node(5, 1, 0), FULL);
        Check.due("FULL for a good node", g.node(1, 0, 0), FULL);
        Check.due("isVector(11)", g.isVector(11), 0);
        Check.due("isVector(12)", g.isVector(12), BAD);
        Check.due("value of the last node", g.value(11, 0, 2), 11);
        Check.due("nodes of a full object", g.forget(), 12);
        Check.due("node after forget", g.node(1, 0, 0), 0);
    }

    private static void refusedNodesLeaveNoTrace() {
        GradientCompiler g = vectorAndNumber();
        g.node(11, 0, 0);
        g.node(0, 3, 0);
        g.node(5, 1, 0);
        Check.due("isVector(2) after refusals", g.isVector(2), BAD);
        Check.due("a refused node is no part", g.node(9, 2, 0), BAD);
        Check.due("the next number", g.node(5, 0, 0), 2);
        Check.due("isVector(0) after refusals", g.isVector(0), 1);
        Check.due("value(1, 0, 0) after refusals", g.value(1, 0, 0), 7);
    }

    private static void mixedParts() {
        GradientCompiler g = vectorAndNumber();
        for (int i = 0; i < 4; i++) {
            g.set(i, 1, 10 * i - 5);
        }
        int next = 2;
        for (int kind = 2; kind <= 4; kind++) {
            for (int x = 0; x < 2; x++) {
                for (int y = 0; y < 2 && next < 12; y++) {
                    String what = "kind " + kind + " of " + x + " and " + y;
                    boolean vector = x == 0 || y == 0;
                    Check.due(what, g.node(kind, x, y), next);
                    Check.due(what + ": isVector", g.isVector(next), vector ? 1 : 0);
                    for (int i = 0; i < (vector ? 4 : 1); i++) {
                        int a = x == 0 ? 10 * i - 5 : 7;
                        int b = y == 0 ? 10 * i - 5 : 7;
                        int want = kind == 2 ? a + b : kind == 3 ? a - b : a * b;
                        Check.due(what + ": value " + i, g.value(next, i, 1), want);
                    }
                    next++;
                }
            }
        }
        derivativesOfMixedParts();
    }

    private static void derivativesOfMixedParts() {
        GradientCompiler g = new GradientCompiler();
        g.node(0, 0, 0);
        g.node(7, 0, 1);
        g.node(3, 1, 0);
        g.node(5, 2, 0);
        g.node(3, 0, 1);
        g.node(5, 4, 0);
        g.node(2, 0, 1);
        g.node(5, 6, 0);
        int[] numberLessVector = {-1, 3, -1, -1};
        int[] vectorLessNumber = {1, -3, 1, 1};
        int[] both = {1, 5, 1, 1};
        for (int i = 0; i < 4; i++) {
            Check.due("number - vector by " + i, g.slope(3, i, 0), numberLessVector[i]);
            Check.due("vector - number by " + i, g.slope(5, i, 0), vectorLessNumber[i]);
            Check.due("vector + number by " + i, g.slope(7, i, 0), both[i]);
        }
    }

    private static void forgetting() {
        GradientCompiler g = vectorAndNumber();
        g.set(3, 1, 4);
        g.aim(3, 1, 9);
        Check.due("value before forget", g.value(0, 3, 1), 4);
        Check.due("forget", g.forget(), 2);
        Check.due("forget again", g.forget(), 0);
        Check.due("isVector after forget", g.isVector(0), BAD);
        Check.due("value after forget", g.value(0, 3, 1), 0);
        Check.due("slope after forget", g.slope(1, 3, 1), 0);
        Check.due("step after forget", g.step(1, 0, 1, 1), false);
        Check.due("no part after forget", g.node(9, 0, 0), BAD);
        Check.due("input after forget", g.input(3, 1), 4);
        Check.due("first node after forget", g.node(1, 50, 0), 0);
        Check.due("its kind", g.isVector(0), 0);
        Check.due("its value", g.value(0, 0, 1), 50);
        Check.due("second node after forget", g.node(0, 0, 0), 1);
        Check.due("its value is the old input", g.value(1, 3, 1), 4);
        Check.due("its direction is the old one", g.along(1, 3, 1), 9);
    }

    private static void isVectorEdges() {
        GradientCompiler g = vectorAndNumber();
        for (int n : new int[] {MIN, -1, 2, 11, 12, MAX}) {
            Check.due("isVector(" + n + ")", g.isVector(n), BAD);
        }
    }
}
