import java.util.ArrayList;
import java.util.List;

/**
 * Promises 1 to 15: each sentence that names a boundary case has a test of its own here, at every level. A
 * refused call is asked for its answer, and then whether it has left everything as it was.
 */
public final class PromisesTest {
    private static final int BAD = -1;
    private static final int FULL = -2;
    private static final int WRONG = -3;
    private static final int MIN = Bench.MIN;
    private static final int MAX = Bench.MAX;
    private static final int[] ANY_INT = {MIN, -1, 0, 4, 12, 1 << 30, MAX};

    public static void main(String[] args) {
        Check.sentence("1 no nodes", PromisesTest::newWithoutNodes);
        Check.sentence("1 the level is 2", PromisesTest::newAtLevelTwo);
        nodes();
        inputs();
        questions();
        Check.sentence("13 rate times the derivative is taken away", PromisesTest::stepRates);
        Check.sentence("13 from every component of an input in an example", PromisesTest::stepMovesOneInput);
        Check.sentence("13 all at once", PromisesTest::stepAllAtOnce);
        Check.sentence("13 n is no node: refused", PromisesTest::stepOfNoNode);
        Check.sentence("13 n is no number: refused", PromisesTest::stepOfNoNumber);
        Check.sentence("13 input outside 0..2: refused", PromisesTest::stepOfNoInput);
        Check.sentence("13 example outside 0..2: refused", PromisesTest::stepInNoExample);
        Check.sentence("13 else true", PromisesTest::stepsTaken);
        Check.sentence("14 k outside 0..2: refused", PromisesTest::levelsRefused);
        Check.sentence("14 else true", PromisesTest::levelsTaken);
        Check.sentence("14 it shows in no answer", PromisesTest::levelShowsInNoAnswer);
        Check.sentence("15 kinds 2 and 3 take vectors and numbers just as kind 4 does", PromisesTest::kindsTakeTheSame);
        Check.end();
    }

    private static void nodes() {
        Check.sentence("2 12 are there: FULL", PromisesTest::full);
        Check.sentence("2 11 are there: not FULL", PromisesTest::notYetFull);
        Check.sentence("2 in this order: FULL, then BAD", PromisesTest::fullBeforeBad);
        Check.sentence("2 in this order: FULL, then WRONG", PromisesTest::fullBeforeWrong);
        Check.sentence("2 in this order: BAD, then WRONG", PromisesTest::badBeforeWrong);
        Check.sentence("2 kind outside 0..10: BAD", PromisesTest::badKinds);
        Check.sentence("2 x not as it must be: BAD", PromisesTest::badX);
        Check.sentence("2 y not as it must be: BAD", PromisesTest::badY);
        Check.sentence("2 operands that a kind does not have play no part", PromisesTest::idleOperands);
        Check.sentence("2 a vector where a number must be: WRONG", PromisesTest::wrongVector);
        Check.sentence("2 a number where a vector must be: WRONG", PromisesTest::wrongNumber);
        Check.sentence("2 else answers its number", PromisesTest::numbersOfNodes);
        Check.sentence("3 takes all nodes away", PromisesTest::forgetTakesAll);
        Check.sentence("3 takes nothing but nodes away", PromisesTest::forgetLeavesInputs);
        Check.sentence("3 answers how many there were", PromisesTest::forgetCounts);
        Check.sentence("7 1 for a vector, 0 for a number", PromisesTest::vectorsAndNumbers);
        Check.sentence("7 BAD if there is none", PromisesTest::isVectorOfNone);
    }

    private static void inputs() {
        Check.sentence("4 at = 4 * input + component", PromisesTest::setPlaces);
        Check.sentence("4 at outside 0..11: refused", PromisesTest::setNoPlace);
        Check.sentence("4 example outside 0..2: refused", PromisesTest::setNoExample);
        Check.sentence("4 else true", PromisesTest::setTaken);
        Check.sentence("5 in the same way: at = 4 * input + component", PromisesTest::aimPlaces);
        Check.sentence("5 in the same way: at outside 0..11: refused", PromisesTest::aimNoPlace);
        Check.sentence("5 in the same way: example outside 0..2: refused", PromisesTest::aimNoExample);
        Check.sentence("5 in the same way: else true", PromisesTest::aimTaken);
        Check.sentence("6 0 for at outside 0..11", PromisesTest::inputAtNoPlace);
        Check.sentence("6 0 for example outside 0..2", PromisesTest::inputInNoExample);
    }

    private static void questions() {
        Check.sentence("8 i = 0 for a number", PromisesTest::valueOfNumber);
        Check.sentence("8 0 if there is no node n", PromisesTest::valueOfNoNode);
        Check.sentence("8 0 if i is outside 0..3", PromisesTest::valueOfNoComponent);
        Check.sentence("8 0 if i is above 0 for a number", PromisesTest::valueAboveZeroForNumber);
        Check.sentence("8 0 if example is outside 0..2", PromisesTest::valueInNoExample);
        Check.sentence("9 0 if n is no node", PromisesTest::slopeOfNoNode);
        Check.sentence("9 0 if n is no number", PromisesTest::slopeOfNoNumber);
        Check.sentence("9 0 if at is outside 0..11", PromisesTest::slopeByNoPlace);
        Check.sentence("9 0 if example is outside 0..2", PromisesTest::slopeInNoExample);
        Check.sentence("10 0 if n is no node", PromisesTest::bendOfNoNode);
        Check.sentence("10 0 if n is no number", PromisesTest::bendOfNoNumber);
        Check.sentence("10 0 if at is outside 0..11", PromisesTest::bendAtNoPlace);
        Check.sentence("10 0 if by is outside 0..11", PromisesTest::bendByNoPlace);
        Check.sentence("10 0 if example is outside 0..2", PromisesTest::bendInNoExample);
        Check.sentence("11 over all input components", PromisesTest::alongEveryPlace);
        Check.sentence("11 i = 0 for a number", PromisesTest::alongNumber);
        Check.sentence("11 0 if there is no node n", PromisesTest::alongNoNode);
        Check.sentence("11 0 if i is outside 0..3", PromisesTest::alongNoComponent);
        Check.sentence("11 0 if i is above 0 for a number", PromisesTest::alongAboveZeroForNumber);
        Check.sentence("11 0 if example is outside 0..2", PromisesTest::alongInNoExample);
        Check.sentence("12 over the three examples", PromisesTest::slopesOfThreeExamples);
        Check.sentence("12 0 if n is no node", PromisesTest::slopeOfAllOfNoNode);
        Check.sentence("12 0 if n is no number", PromisesTest::slopeOfAllOfNoNumber);
        Check.sentence("12 0 if at is outside 0..11", PromisesTest::slopeOfAllByNoPlace);
    }

    // Promise 1

    private static void newWithoutNodes(int level) {
        GradientCompiler g = Bench.made(level);
        for (int n = 0; n < 12; n++) {
            Check.due("isVector(" + n + ")", g.isVector(n), BAD);
            Check.due("value of node " + n, g.value(n, 0, 0), 0);
            Check.due("slope of node " + n, g.slope(n, 0, 0), 0);
            Check.due("bend of node " + n, g.bend(n, 0, 0, 0), 0);
            Check.due("along node " + n, g.along(n, 0, 0), 0);
            Check.due("slopeOfAll of node " + n, g.slopeOfAll(n, 0), 0);
            Check.due("step of node " + n, g.step(n, 0, 0, 1), false);
        }
        for (int kind = 2; kind <= 10; kind++) {
            Check.due("kind " + kind + " of node 0", g.node(kind, 0, 0), BAD);
        }
        Check.due("forget", g.forget(), 0);
        Check.due("the first node", g.node(0, 0, 0), 0);
    }

    /** The level shows in no answer, so all that can be seen is that a new object answers as one at level 2. */
    private static void newAtLevelTwo(int level) {
        same(answers(Bench.made(Bench.AS_NEW)), answers(Bench.made(2)));
    }

    /** Answers to a run of calls that uses every method. */
    private static List<Integer> answers(GradientCompiler g) {
        List<Integer> got = new ArrayList<>();
        got.add(g.node(0, 0, 0));
        got.add(g.node(4, 0, 0));
        got.add(g.node(5, 1, 0));
        got.add(g.node(4, 2, 0));
        got.add(g.node(9, 3, 0));
        got.add(g.node(5, 4, 0));
        got.add(g.node(5, 5, 0));
        for (int round = 0; round < 3; round++) {
            for (int at = 0; at < 4; at++) {
                got.add(g.set(at, round, 3 * at - 4 + round) ? 1 : 0);
                got.add(g.aim(at, round, 5 - at) ? 1 : 0);
                got.add(g.input(at, round));
                got.add(g.value(4, at, round));
                got.add(g.slope(5, at, round));
                got.add(g.bend(5, at, 3 - at, round));
                got.add(g.along(4, at, round));
                got.add(g.slopeOfAll(5, at));
            }
            got.add(g.step(5, 0, round, 1 - round) ? 1 : 0);
            got.add(g.value(5, 0, round));
        }
        got.add(g.isVector(5));
        got.add(g.forget());
        return got;
    }

    private static void same(List<Integer> got, List<Integer> want) {
        Check.due("answers", got.size(), want.size());
        for (int k = 0; k < want.size(); k++) {
            Check.due("answer " + k, got.get(k), want.get(k));
        }
    }

    // Promise 2

    /** The even nodes are vectors, the odd ones numbers. */
    private static GradientCompiler withNodes(int level, int count) {
        GradientCompiler g = Bench.made(level);
        for (int n = 0; n < count; n++) {
            Check.due("node " + n, g.node(n % 2, n % 2 == 0 ? 0 : n, 0), n);
        }
        return g;
    }

    private static void stillWithNodes(GradientCompiler g, int count) {
        for (int n = 0; n < count; n++) {
            Check.due("afterwards isVector(" + n + ")", g.isVector(n), n % 2 == 0 ? 1 : 0);
            Check.due("afterwards value of node " + n, g.value(n, 0, 0), n % 2 == 0 ? 0 : n);
        }
        Check.due("afterwards isVector(" + count + ")", g.isVector(count), BAD);
        Check.due("afterwards forget", g.forget(), count);
    }

    private static void full(int level) {
        GradientCompiler g = withNodes(level, 12);
        int[] x = {0, 5, 0, 0, 0, 0, 0, 0, 1, 0, 0};
        for (int kind = 0; kind <= 10; kind++) {
            Check.due("a good node of kind " + kind, g.node(kind, x[kind], 0), FULL);
        }
        stillWithNodes(g, 12);
        Check.due("after forget", g.node(0, 0, 0), 0);
    }

    private static void notYetFull(int level) {
        GradientCompiler g = withNodes(level, 11);
        for (int k = 0; k < 5; k++) {
            Check.due("a refused node is not there", g.node(11, 0, 0), BAD);
            Check.due("a refused node is not there", g.node(5, 1, 0), WRONG);
        }
        Check.due("the twelfth", g.node(1, 11, 0), 11);
        stillWithNodes(g, 12);
    }

    private static void fullBeforeBad(int level) {
        GradientCompiler g = withNodes(level, 12);
        Check.due("kind -1", g.node(-1, 0, 0), FULL);
        Check.due("kind 11", g.node(11, 0, 0), FULL);
        Check.due("input 3", g.node(0, 3, 0), FULL);
        Check.due("node 12 as x", g.node(9, 12, 0), FULL);
        Check.due("node 12 as y", g.node(2, 0, 12), FULL);
        Check.due("component 4", g.node(7, 0, 4), FULL);
        stillWithNodes(g, 12);
    }

    private static void fullBeforeWrong(int level) {
        GradientCompiler g = withNodes(level, 12);
        Check.due("kind 5 of a number", g.node(5, 1, 0), FULL);
        Check.due("kind 6 of a number", g.node(6, 1, 0), FULL);
        Check.due("kind 7 of a number", g.node(7, 1, 0), FULL);
        Check.due("kind 8 of a vector", g.node(8, 0, 0), FULL);
        Check.due("kind 10 of a number", g.node(10, 1, 0), FULL);
        stillWithNodes(g, 12);
    }

    private static void badBeforeWrong(int level) {
        GradientCompiler g = withNodes(level, 2);
        for (int y : Bench.NO_COMPONENT) {
            Check.due("component " + y + " of a number", g.node(7, 1, y), BAD);
        }
        stillWithNodes(g, 2);
    }

    private static void badKinds(int level) {
        GradientCompiler g = withNodes(level, 2);
        for (int kind : new int[] {MIN, -11, -1, 11, 12, 256, 1 << 30, MAX}) {
            Check.due("kind " + kind, g.node(kind, 0, 0), BAD);
        }
        stillWithNodes(g, 2);
    }

    private static void badX(int level) {
        GradientCompiler g = withNodes(level, 2);
        for (int x : Bench.NO_INPUT) {
            Check.due("kind 0 of input " + x, g.node(0, x, 0), BAD);
        }
        for (int kind = 2; kind <= 10; kind++) {
            for (int x : new int[] {MIN, -1, 2, 3, 12, 1 << 30, MAX}) {
                Check.due("kind " + kind + " of node " + x, g.node(kind, x, 0), BAD);
            }
        }
        stillWithNodes(g, 2);
    }

    private static void badY(int level) {
        GradientCompiler g = withNodes(level, 2);
        for (int kind = 2; kind <= 4; kind++) {
            for (int y : new int[] {MIN, -1, 2, 3, 12, 1 << 30, MAX}) {
                Check.due("kind " + kind + " with node " + y, g.node(kind, 0, y), BAD);
                Check.due("kind " + kind + " with node " + y, g.node(kind, 1, y), BAD);
            }
        }
        for (int y : Bench.NO_COMPONENT) {
            Check.due("component " + y, g.node(7, 0, y), BAD);
        }
        stillWithNodes(g, 2);
    }

    private static void idleOperands(int level) {
        int[] kinds = {0, 1, 5, 6, 8, 9, 10};
        int[] x = {2, 6, 0, 0, 1, 0, 0};
        int[] value = {8, 6, 18, 5, 7, 4, 4};
        int[] along = {1, 0, 4, 1, 0, 1, 1};
        for (int k = 0; k < kinds.length; k++) {
            for (int y : ANY_INT) {
                GradientCompiler g = Bench.withInputs(level, 4, 5, 6, 3, 0, 0, 0, 0, 8);
                for (int at = 0; at < 12; at++) {
                    g.aim(at, 0, 1);
                }
                g.node(0, 0, 0);
                g.node(1, 7, 0);
                String what = "kind " + kinds[k] + " with y " + y;
                Check.due(what, g.node(kinds[k], x[k], y), 2);
                Check.due(what + ": value", g.value(2, 0, 0), value[k]);
                Check.due(what + ": along", g.along(2, 0, 0), along[k]);
                Check.due(what + ": slope", g.slope(2, 0, 0), kinds[k] == 5 ? 1 : 0);
                Check.due(what + ": bend", g.bend(2, 0, 0, 0), 0);
            }
        }
    }

    private static void wrongVector(int level) {
        GradientCompiler g = withNodes(level, 4);
        Check.due("kind 8 of node 0", g.node(8, 0, 0), WRONG);
        Check.due("kind 8 of node 2", g.node(8, 2, 0), WRONG);
        stillWithNodes(g, 4);
    }

    private static void wrongNumber(int level) {
        GradientCompiler g = withNodes(level, 4);
        for (int kind : new int[] {5, 6, 7, 10}) {
            Check.due("kind " + kind + " of node 1", g.node(kind, 1, 0), WRONG);
            Check.due("kind " + kind + " of node 3", g.node(kind, 3, 0), WRONG);
        }
        stillWithNodes(g, 4);
    }

    private static void numbersOfNodes(int level) {
        GradientCompiler g = withNodes(level, 2);
        int[] x = {0, 5, 0, 0, 0, 0, 0, 0, 1, 0};
        for (int kind = 0; kind <= 9; kind++) {
            Check.due("a refused node takes no number", g.node(0, 3, 0), BAD);
            Check.due("a refused node takes no number", g.node(8, 0, 0), WRONG);
            Check.due("kind " + kind, g.node(kind, x[kind], 0), 2 + kind);
        }
        GradientCompiler h = withNodes(level, 11);
        Check.due("kind 10", h.node(10, 0, 0), 11);
    }

    // Promise 3

    private static void forgetTakesAll(int level) {
        GradientCompiler g = Bench.filled(level);
        Check.due("forget", g.forget(), Bench.NODES);
        for (int n = 0; n < Bench.NODES; n++) {
            Check.due("isVector(" + n + ")", g.isVector(n), BAD);
            Check.due("value of node " + n, g.value(n, 0, 0), 0);
            Check.due("along node " + n, g.along(n, 0, 0), 0);
        }
        Check.due("slope", g.slope(Bench.SQUARE_OF_SUM, 0, 0), 0);
        Check.due("bend", g.bend(Bench.SQUARE_OF_SUM, 0, 0, 0), 0);
        Check.due("slopeOfAll", g.slopeOfAll(Bench.SQUARE_OF_SUM, 0), 0);
        Check.due("step", g.step(Bench.SQUARE_OF_SUM, 0, 0, 1), false);
        Check.due("node 0 is no part", g.node(9, 0, 0), BAD);
        Check.due("the first node again", g.node(1, 50, 0), 0);
        Check.due("is a number now", g.isVector(0), 0);
        for (int example = 0; example < 3; example++) {
            Check.due("with a value of its own", g.value(0, 0, example), 50);
            Check.due("without a slope", g.slope(0, 0, example), 0);
        }
        Check.due("no other one is there", g.forget(), 1);
    }

    private static void forgetLeavesInputs(int level) {
        GradientCompiler g = Bench.filled(level);
        g.forget();
        for (int input = 0; input < 3; input++) {
            g.node(0, input, 0);
        }
        for (int example = 0; example < 3; example++) {
            for (int at = 0; at < 12; at++) {
                String place = " at " + at + " in example " + example;
                Check.due("input" + place, g.input(at, example), Bench.mark(at, example));
                Check.due("direction" + place, g.along(at / 4, at % 4, example), -Bench.mark(at, example));
            }
        }
    }

    private static void forgetCounts(int level) {
        for (int count = 0; count <= 12; count++) {
            GradientCompiler g = withNodes(level, count);
            Check.due("forget of " + count, g.forget(), count);
            Check.due("forget again", g.forget(), 0);
        }
        GradientCompiler g = withNodes(level, 12);
        g.node(0, 0, 0);
        Check.due("forget of 12 after FULL", g.forget(), 12);
    }

    // Promises 4 and 5

    private static void setPlaces(int level) {
        GradientCompiler g = Bench.made(level);
        for (int input = 0; input < 3; input++) {
            g.node(0, input, 0);
        }
        for (int at = 0; at < 12; at++) {
            g.set(at, 1, 6);
            for (int n = 0; n < 3; n++) {
                for (int i = 0; i < 4; i++) {
                    Check.due("set at " + at + ", input " + n + ", component " + i, g.value(n, i, 1), at == 4 * n + i ? 6 : 0);
                }
            }
            g.set(at, 1, 0);
        }
    }

    private static void setNoPlace(int level) {
        GradientCompiler g = Bench.filled(level);
        for (int at : Bench.NO_PLACE) {
            for (int example = 0; example < 3; example++) {
                Check.due("set at " + at + " in example " + example, g.set(at, example, 9), false);
            }
            Check.due("set at " + at + " in example -1", g.set(at, -1, 9), false);
        }
        Bench.unchanged(g);
    }

    private static void setNoExample(int level) {
        GradientCompiler g = Bench.filled(level);
        for (int example : Bench.NO_EXAMPLE) {
            for (int at = 0; at < 12; at++) {
                Check.due("set at " + at + " in example " + example, g.set(at, example, 9), false);
            }
        }
        Bench.unchanged(g);
    }

    private static void setTaken(int level) {
        GradientCompiler g = Bench.made(level);
        for (int value : new int[] {MIN, -1, 0, 0, 1, MAX}) {
            for (int example = 0; example < 3; example++) {
                for (int at = 0; at < 12; at += 11) {
                    Check.due("set at " + at + " in example " + example, g.set(at, example, value), true);
                    Check.due("input at " + at + " in example " + example, g.input(at, example), value);
                }
            }
        }
    }

    private static void aimPlaces(int level) {
        GradientCompiler g = Bench.made(level);
        for (int input = 0; input < 3; input++) {
            g.node(0, input, 0);
        }
        for (int at = 0; at < 12; at++) {
            g.aim(at, 1, 6);
            for (int n = 0; n < 3; n++) {
                for (int i = 0; i < 4; i++) {
                    Check.due("aim at " + at + ", input " + n + ", component " + i, g.along(n, i, 1), at == 4 * n + i ? 6 : 0);
                }
            }
            g.aim(at, 1, 0);
        }
    }

    private static void aimNoPlace(int level) {
        GradientCompiler g = Bench.filled(level);
        for (int at : Bench.NO_PLACE) {
            for (int example = 0; example < 3; example++) {
                Check.due("aim at " + at + " in example " + example, g.aim(at, example, 9), false);
            }
            Check.due("aim at " + at + " in example -1", g.aim(at, -1, 9), false);
        }
        Bench.unchanged(g);
    }

    private static void aimNoExample(int level) {
        GradientCompiler g = Bench.filled(level);
        for (int example : Bench.NO_EXAMPLE) {
            for (int at = 0; at < 12; at++) {
                Check.due("aim at " + at + " in example " + example, g.aim(at, example, 9), false);
            }
        }
        Bench.unchanged(g);
    }

    private static void aimTaken(int level) {
        GradientCompiler g = Bench.made(level);
        g.node(0, 0, 0);
        g.node(0, 2, 0);
        for (int value : new int[] {MIN, -1, 0, 0, 1, MAX}) {
            for (int example = 0; example < 3; example++) {
                Check.due("aim at 0 in example " + example, g.aim(0, example, value), true);
                Check.due("aim at 11 in example " + example, g.aim(11, example, value), true);
                Check.due("along 0 in example " + example, g.along(0, 0, example), value);
                Check.due("along 11 in example " + example, g.along(1, 3, example), value);
            }
        }
    }

    // Promise 6

    private static void inputAtNoPlace(int level) {
        GradientCompiler g = Bench.filled(level);
        for (int at : Bench.NO_PLACE) {
            for (int example = 0; example < 3; example++) {
                Check.due("input at " + at + " in example " + example, g.input(at, example), 0);
            }
            Check.due("input at " + at + " in example 3", g.input(at, 3), 0);
        }
        Bench.unchanged(g);
    }

    private static void inputInNoExample(int level) {
        GradientCompiler g = Bench.filled(level);
        for (int example : Bench.NO_EXAMPLE) {
            for (int at = 0; at < 12; at++) {
                Check.due("input at " + at + " in example " + example, g.input(at, example), 0);
            }
        }
        Bench.unchanged(g);
    }

    // Promise 7

    private static void vectorsAndNumbers(int level) {
        GradientCompiler g = withNodes(level, 2);
        int[] kinds = {0, 1, 4, 5, 6, 7, 8, 9, 9, 10};
        int[] x = {2, 0, 0, 0, 0, 0, 1, 0, 1, 0};
        int[] vector = {1, 0, 1, 0, 1, 0, 1, 1, 0, 1};
        for (int k = 0; k < kinds.length; k++) {
            int n = g.node(kinds[k], x[k], 0);
            Check.due("isVector of kind " + kinds[k] + " of " + x[k], g.isVector(n), vector[k]);
        }
    }

    private static void isVectorOfNone(int level) {
        GradientCompiler g = Bench.filled(level);
        for (int n : Bench.NO_NODE) {
            Check.due("isVector(" + n + ")", g.isVector(n), BAD);
        }
        GradientCompiler h = withNodes(level, 12);
        Check.due("isVector(11) of 12", h.isVector(11), 0);
        Check.due("isVector(12) of 12", h.isVector(12), BAD);
        h.forget();
        Check.due("isVector(0) of none", h.isVector(0), BAD);
    }

    // Promise 8

    private static void valueOfNumber(int level) {
        GradientCompiler g = Bench.filled(level);
        for (int example = 0; example < 3; example++) {
            int want = Bench.sum(example) * Bench.sum(example);
            Check.due("value in example " + example, g.value(Bench.SQUARE_OF_SUM, 0, example), want);
        }
    }

    private static void valueOfNoNode(int level) {
        GradientCompiler g = Bench.filled(level);
        for (int n : Bench.NO_NODE) {
            for (int i = 0; i < 4; i++) {
                for (int example = 0; example < 3; example++) {
                    Check.due("value of node " + n + ", " + i + " in example " + example, g.value(n, i, example), 0);
                }
            }
        }
        Bench.unchanged(g);
    }

    private static void valueOfNoComponent(int level) {
        GradientCompiler g = Bench.filled(level);
        for (int i : Bench.NO_COMPONENT) {
            for (int n = 0; n < Bench.NODES; n++) {
                Check.due("value of node " + n + ", " + i, g.value(n, i, 1), 0);
            }
        }
        for (int i = 0; i < 4; i++) {
            Check.due("value of component " + i, g.value(Bench.INPUT_2, i, 1), Bench.mark(8 + i, 1));
        }
        Bench.unchanged(g);
    }

    private static void valueAboveZeroForNumber(int level) {
        GradientCompiler g = Bench.filled(level);
        for (int i : new int[] {1, 2, 3, 4, 1 << 30, MAX}) {
            Check.due("value of a number, " + i, g.value(Bench.SQUARE_OF_SUM, i, 0), 0);
            Check.due("value of a number, " + i + " in example 2", g.value(Bench.SQUARE_OF_SUM, i, 2), 0);
        }
        Bench.unchanged(g);
    }

    private static void valueInNoExample(int level) {
        GradientCompiler g = Bench.filled(level);
        for (int example : Bench.NO_EXAMPLE) {
            for (int n = 0; n < Bench.NODES; n++) {
                Check.due("value of node " + n + " in example " + example, g.value(n, 0, example), 0);
            }
        }
        Bench.unchanged(g);
    }

    // Promise 9

    private static void slopeOfNoNode(int level) {
        GradientCompiler g = Bench.filled(level);
        for (int n : Bench.NO_NODE) {
            for (int at = 0; at < 12; at++) {
                Check.due("slope of node " + n + " by " + at, g.slope(n, at, 0), 0);
            }
        }
        Bench.unchanged(g);
    }

    private static void slopeOfNoNumber(int level) {
        GradientCompiler g = Bench.filled(level);
        for (int at = 0; at < 12; at++) {
            Check.due("slope of an input by " + at, g.slope(Bench.INPUT_2, at, 0), 0);
            Check.due("slope of a vector by " + at, g.slope(Bench.SQUARES, at, 2), 0);
        }
        Bench.unchanged(g);
    }

    private static void slopeByNoPlace(int level) {
        GradientCompiler g = Bench.filled(level);
        for (int at : Bench.NO_PLACE) {
            for (int example = 0; example < 3; example++) {
                Check.due("slope by " + at + " in example " + example, g.slope(Bench.SQUARE_OF_SUM, at, example), 0);
            }
        }
        for (int at = 0; at < 12; at++) {
            Check.due("slope by " + at, g.slope(Bench.SQUARE_OF_SUM, at, 1), 2 * Bench.sum(1));
        }
        Bench.unchanged(g);
    }

    private static void slopeInNoExample(int level) {
        GradientCompiler g = Bench.filled(level);
        for (int example : Bench.NO_EXAMPLE) {
            for (int at = 0; at < 12; at++) {
                Check.due("slope by " + at + " in example " + example, g.slope(Bench.SQUARE_OF_SUM, at, example), 0);
            }
        }
        Bench.unchanged(g);
    }

    // Promise 10

    private static void bendOfNoNode(int level) {
        GradientCompiler g = Bench.filled(level);
        for (int n : Bench.NO_NODE) {
            for (int at = 0; at < 12; at++) {
                Check.due("bend of node " + n + " by " + at, g.bend(n, at, 11 - at, 0), 0);
            }
        }
        Bench.unchanged(g);
    }

    private static void bendOfNoNumber(int level) {
        GradientCompiler g = Bench.filled(level);
        for (int at = 0; at < 12; at++) {
            Check.due("bend of a vector by " + at, g.bend(Bench.SQUARES, at, at, 2), 0);
            Check.due("bend of a vector by " + at + ", 0", g.bend(Bench.SQUARES, at, 0, 0), 0);
        }
        Bench.unchanged(g);
    }

    private static void bendAtNoPlace(int level) {
        GradientCompiler g = Bench.filled(level);
        for (int at : Bench.NO_PLACE) {
            Check.due("bend by " + at + ", 0", g.bend(Bench.SQUARE_OF_SUM, at, 0, 0), 0);
            Check.due("bend by " + at + ", 11", g.bend(Bench.SQUARE_OF_SUM, at, 11, 1), 0);
            Check.due("bend by " + at + " twice", g.bend(Bench.SQUARE_OF_SUM, at, at, 2), 0);
        }
        for (int at = 0; at < 12; at++) {
            Check.due("bend by " + at + ", 5", g.bend(Bench.SQUARE_OF_SUM, at, 5, 2), 2);
        }
        Bench.unchanged(g);
    }

    private static void bendByNoPlace(int level) {
        GradientCompiler g = Bench.filled(level);
        for (int by : Bench.NO_PLACE) {
            Check.due("bend by 0, " + by, g.bend(Bench.SQUARE_OF_SUM, 0, by, 0), 0);
            Check.due("bend by 11, " + by, g.bend(Bench.SQUARE_OF_SUM, 11, by, 1), 0);
        }
        for (int by = 0; by < 12; by++) {
            Check.due("bend by 5, " + by, g.bend(Bench.SQUARE_OF_SUM, 5, by, 2), 2);
        }
        Bench.unchanged(g);
    }

    private static void bendInNoExample(int level) {
        GradientCompiler g = Bench.filled(level);
        for (int example : Bench.NO_EXAMPLE) {
            for (int at = 0; at < 12; at++) {
                Check.due("bend in example " + example, g.bend(Bench.SQUARE_OF_SUM, at, 11 - at, example), 0);
            }
        }
        Bench.unchanged(g);
    }

    // Promise 11

    private static void alongEveryPlace(int level) {
        GradientCompiler g = Bench.filled(level);
        for (int example = 0; example < 3; example++) {
            int want = -2 * Bench.sum(example) * Bench.sum(example);
            Check.due("along in example " + example, g.along(Bench.SQUARE_OF_SUM, 0, example), want);
        }
        for (int at = 0; at < 12; at++) {
            g.aim(at, 1, 0);
        }
        Check.due("along no direction", g.along(Bench.SQUARE_OF_SUM, 0, 1), 0);
        for (int at = 0; at < 12; at++) {
            g.aim(at, 1, 1);
            Check.due("along " + at + " and those before", g.along(Bench.SQUARE_OF_SUM, 0, 1), 2 * Bench.sum(1) * (at + 1));
        }
    }

    private static void alongNumber(int level) {
        GradientCompiler g = Bench.filled(level);
        Check.due("along the sum", g.along(5, 0, 0), -Bench.sum(0));
        Check.due("along the sum in example 2", g.along(5, 0, 2), -Bench.sum(2));
    }

    private static void alongNoNode(int level) {
        GradientCompiler g = Bench.filled(level);
        for (int n : Bench.NO_NODE) {
            for (int i = 0; i < 4; i++) {
                for (int example = 0; example < 3; example++) {
                    Check.due("along node " + n + ", " + i + " in example " + example, g.along(n, i, example), 0);
                }
            }
        }
        Bench.unchanged(g);
    }

    private static void alongNoComponent(int level) {
        GradientCompiler g = Bench.filled(level);
        for (int i : Bench.NO_COMPONENT) {
            for (int n = 0; n < Bench.NODES; n++) {
                Check.due("along node " + n + ", " + i, g.along(n, i, 1), 0);
            }
        }
        for (int i = 0; i < 4; i++) {
            int component = 612 + 3 * i;
            Check.due("along component " + i, g.along(Bench.SQUARES, i, 1), -2 * component * component);
        }
        Bench.unchanged(g);
    }

    private static void alongAboveZeroForNumber(int level) {
        GradientCompiler g = Bench.filled(level);
        for (int i : new int[] {1, 2, 3, 4, 1 << 30, MAX}) {
            Check.due("along a number, " + i, g.along(Bench.SQUARE_OF_SUM, i, 0), 0);
            Check.due("along a number, " + i + " in example 2", g.along(Bench.SQUARE_OF_SUM, i, 2), 0);
        }
        Bench.unchanged(g);
    }

    private static void alongInNoExample(int level) {
        GradientCompiler g = Bench.filled(level);
        for (int example : Bench.NO_EXAMPLE) {
            for (int n = 0; n < Bench.NODES; n++) {
                Check.due("along node " + n + " in example " + example, g.along(n, 0, example), 0);
            }
        }
        Bench.unchanged(g);
    }

    // Promise 12

    private static void slopesOfThreeExamples(int level) {
        GradientCompiler g = Bench.filled(level);
        int want = 2 * (Bench.sum(0) + Bench.sum(1) + Bench.sum(2));
        for (int at = 0; at < 12; at++) {
            Check.due("slopeOfAll by " + at, g.slopeOfAll(Bench.SQUARE_OF_SUM, at), want);
        }
        for (int example = 0; example < 3; example++) {
            g.set(0, example, Bench.mark(0, example) + 1000);
            want += 2000;
            Check.due("slopeOfAll after a set in example " + example, g.slopeOfAll(Bench.SQUARE_OF_SUM, 11), want);
        }
    }

    private static void slopeOfAllOfNoNode(int level) {
        GradientCompiler g = Bench.filled(level);
        for (int n : Bench.NO_NODE) {
            for (int at = 0; at < 12; at++) {
                Check.due("slopeOfAll of node " + n + " by " + at, g.slopeOfAll(n, at), 0);
            }
        }
        Bench.unchanged(g);
    }

    private static void slopeOfAllOfNoNumber(int level) {
        GradientCompiler g = Bench.filled(level);
        for (int at = 0; at < 12; at++) {
            Check.due("slopeOfAll of an input by " + at, g.slopeOfAll(Bench.INPUT_2, at), 0);
            Check.due("slopeOfAll of a vector by " + at, g.slopeOfAll(Bench.SQUARES, at), 0);
        }
        Bench.unchanged(g);
    }

    private static void slopeOfAllByNoPlace(int level) {
        GradientCompiler g = Bench.filled(level);
        for (int at : Bench.NO_PLACE) {
            Check.due("slopeOfAll by " + at, g.slopeOfAll(Bench.SQUARE_OF_SUM, at), 0);
        }
        Bench.unchanged(g);
    }

    // Promise 13

    private static void stepRates(int level) {
        for (int rate : new int[] {MIN, -2, -1, 0, 1, 3, MAX}) {
            GradientCompiler g = Bench.filled(level);
            Check.due("step at rate " + rate, g.step(Bench.SQUARE_OF_SUM, 0, 0, rate), true);
            for (int at = 0; at < 4; at++) {
                int want = Bench.mark(at, 0) - rate * 2 * Bench.sum(0);
                Check.due("at rate " + rate + ", input " + at, g.input(at, 0), want);
            }
        }
    }

    private static void stepMovesOneInput(int level) {
        for (int input = 0; input < 3; input++) {
            for (int in = 0; in < 3; in++) {
                GradientCompiler g = Bench.filled(level);
                g.step(Bench.SQUARE_OF_SUM, input, in, 1);
                for (int example = 0; example < 3; example++) {
                    for (int at = 0; at < 12; at++) {
                        String place = "step of " + input + " in " + in + ", at " + at + " in " + example;
                        int less = example == in && at / 4 == input ? 2 * Bench.sum(in) : 0;
                        Check.due(place, g.input(at, example), Bench.mark(at, example) - less);
                        Check.due(place + ", direction", g.along(at / 4, at % 4, example), -Bench.mark(at, example));
                    }
                }
            }
        }
    }

    private static void stepAllAtOnce(int level) {
        for (int input = 0; input < 3; input++) {
            for (int example = 0; example < 3; example++) {
                GradientCompiler g = Bench.made(level);
                int[] x = {3, 5, -7, 11};
                for (int i = 0; i < 4; i++) {
                    g.set(4 * input + i, example, x[i]);
                }
                g.node(0, input, 0);
                g.node(6, 0, 0);
                g.node(4, 0, 1);
                g.node(5, 2, 0);
                // The sum of the products of neighbours, around: by each, the sum of its two neighbours.
                Check.due("step", g.step(3, input, example, 1), true);
                int[] want = {3 - 16, 5 + 4, -7 - 16, 11 + 4};
                for (int i = 0; i < 4; i++) {
                    Check.due("component " + i, g.input(4 * input + i, example), want[i]);
                }
                Check.due("value", g.value(3, 0, example), -13 * 9 + 9 * -23 + -23 * 15 + 15 * -13);
            }
        }
    }

    private static void stepOfNoNode(int level) {
        GradientCompiler g = Bench.filled(level);
        for (int n : Bench.NO_NODE) {
            for (int example = 0; example < 3; example++) {
                Check.due("step of node " + n, g.step(n, example, example, 1), false);
            }
        }
        Bench.unchanged(g);
        GradientCompiler h = Bench.made(level);
        h.node(1, 6, 0);
        for (int n : new int[] {MIN, -1, 1, 12, 1 << 30, MAX}) {
            Check.due("step of node " + n + " beside an int", h.step(n, 0, 0, 1), false);
        }
    }

    private static void stepOfNoNumber(int level) {
        GradientCompiler g = Bench.filled(level);
        for (int example = 0; example < 3; example++) {
            Check.due("step of an input", g.step(Bench.INPUT_2, 2, example, 1), false);
            Check.due("step of a vector", g.step(Bench.SQUARES, 0, example, 1), false);
        }
        Bench.unchanged(g);
    }

    private static void stepOfNoInput(int level) {
        GradientCompiler g = Bench.filled(level);
        for (int input : Bench.NO_INPUT) {
            for (int example = 0; example < 3; example++) {
                Check.due("step of input " + input, g.step(Bench.SQUARE_OF_SUM, input, example, 1), false);
            }
        }
        Bench.unchanged(g);
    }

    private static void stepInNoExample(int level) {
        GradientCompiler g = Bench.filled(level);
        for (int example : Bench.NO_EXAMPLE) {
            for (int input = 0; input < 3; input++) {
                Check.due("step in example " + example, g.step(Bench.SQUARE_OF_SUM, input, example, 1), false);
            }
        }
        Bench.unchanged(g);
    }

    private static void stepsTaken(int level) {
        GradientCompiler g = Bench.filled(level);
        for (int input = 0; input < 3; input++) {
            for (int example = 0; example < 3; example++) {
                Check.due("step at rate 0", g.step(Bench.SQUARE_OF_SUM, input, example, 0), true);
            }
        }
        Bench.unchanged(g);
        g.node(1, 6, 0);
        Check.due("step of an int", g.step(Bench.NODES, 0, 0, 1), true);
        Check.due("input after it", g.input(0, 0), Bench.mark(0, 0));
    }

    // Promise 14

    private static void levelsRefused(int level) {
        GradientCompiler g = Bench.filled(level);
        for (int k : new int[] {MIN, -1, 3, 4, 1 << 30, MAX}) {
            Check.due("level " + k, g.level(k), false);
            Check.due("along after it", g.along(Bench.SQUARE_OF_SUM, 0, 0), -2 * Bench.sum(0) * Bench.sum(0));
            g.set(0, 0, Bench.mark(0, 0) + 1);
            Check.due("value after it", g.value(5, 0, 0), Bench.sum(0) + 1);
            g.set(0, 0, Bench.mark(0, 0));
        }
        Bench.unchanged(g);
    }

    private static void levelsTaken(int level) {
        GradientCompiler g = Bench.filled(level);
        for (int k : new int[] {0, 1, 2, 2, 1, 0, 0, 2, 0}) {
            Check.due("level " + k, g.level(k), true);
        }
        Bench.unchanged(g);
    }

    private static void levelShowsInNoAnswer(int level) {
        List<Integer> want = answers(Bench.made(Bench.AS_NEW));
        same(answers(Bench.made(level)), want);
        for (int from = 0; from < 3; from++) {
            GradientCompiler g = Bench.filled(from);
            Check.due("value at level " + from, g.value(Bench.SQUARE_OF_SUM, 0, 0), Bench.sum(0) * Bench.sum(0));
            if (level != Bench.AS_NEW) {
                g.level(level);
            }
            // What was kept at one level must not come back at another one.
            g.set(0, 0, Bench.mark(0, 0) - Bench.sum(0) + 3);
            Check.due("value of a part", g.value(5, 0, 0), 3);
            g.level(from);
            Check.due("value at level " + from + " again", g.value(Bench.SQUARE_OF_SUM, 0, 0), 9);
            Check.due("slope at level " + from + " again", g.slope(Bench.SQUARE_OF_SUM, 11, 0), 6);
        }
    }

    // Promise 15

    private static void kindsTakeTheSame(int level) {
        for (int kind = 2; kind <= 4; kind++) {
            GradientCompiler g = withNodes(level, 4);
            for (int x = 0; x < 4; x++) {
                for (int y = x % 2; y < 4; y += 2) {
                    Check.due("kind " + kind + " of " + x + " and " + y, g.node(kind, x, y), 4 + 2 * x + y / 2);
                }
            }
            GradientCompiler h = withNodes(level, 2);
            Check.due("kind " + kind + " of vector and number", h.node(kind, 0, 1), 2);
            Check.due("kind " + kind + " of number and vector", h.node(kind, 1, 0), 3);
            Check.due("kind " + kind + " of two numbers", h.node(kind, 1, 1), 4);
            Check.due("kind " + kind + " of two vectors", h.node(kind, 0, 0), 5);
            int[] vector = {1, 1, 0, 1};
            for (int n = 2; n < 6; n++) {
                Check.due("kind " + kind + ", isVector(" + n + ")", h.isVector(n), vector[n - 2]);
            }
            mixedValues(level, kind);
        }
    }

    private static void mixedValues(int level, int kind) {
        GradientCompiler g = Bench.withInputs(level, 3, -2, 5, 8);
        g.node(0, 0, 0);
        g.node(7, 0, 1);
        g.node(kind, 0, 1);
        g.node(kind, 1, 0);
        g.node(7, 2, 3);
        g.node(7, 3, 3);
        int[] x = {3, -2, 5, 8};
        for (int i = 0; i < 4; i++) {
            int ahead = kind == 2 ? x[i] - 2 : kind == 3 ? x[i] + 2 : x[i] * -2;
            Check.due("kind " + kind + ", vector and number, " + i, g.value(2, i, 0), ahead);
            Check.due("kind " + kind + ", number and vector, " + i, g.value(3, i, 0), kind == 3 ? -ahead : ahead);
        }
        int byVector = kind == 4 ? -2 : 1;
        int byNumber = kind == 4 ? 8 : kind == 3 ? -1 : 1;
        int turn = kind == 3 ? -1 : 1;
        Check.due("kind " + kind + ", by the vector's component", g.slope(4, 3, 0), byVector);
        Check.due("kind " + kind + ", by the number", g.slope(4, 1, 0), byNumber);
        Check.due("kind " + kind + " the other way, by the vector's component", g.slope(5, 3, 0), turn * byVector);
        Check.due("kind " + kind + " the other way, by the number", g.slope(5, 1, 0), turn * byNumber);
    }
}
