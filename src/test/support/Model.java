import java.util.ArrayList;
import java.util.List;

/**
 * A second working of the document, kept unlike the program: every node is worked out anew for each
 * question as whole tables of first and second derivatives, numbers have one component, and nothing is kept.
 */
final class Model {
    private record Node(int kind, int x, int y, boolean vector) {
    }

    /** A value with its derivatives by all twelve places and by all pairs of them. */
    private static final class Jet {
        int value;
        final int[] first = new int[12];
        final int[][] second = new int[12][12];

        Jet plus(Jet other, int times) {
            Jet sum = new Jet();
            sum.value = value + times * other.value;
            for (int at = 0; at < 12; at++) {
                sum.first[at] = first[at] + times * other.first[at];
                for (int by = 0; by < 12; by++) {
                    sum.second[at][by] = second[at][by] + times * other.second[at][by];
                }
            }
            return sum;
        }

        Jet times(Jet other) {
            Jet product = new Jet();
            product.value = value * other.value;
            for (int at = 0; at < 12; at++) {
                product.first[at] = first[at] * other.value + value * other.first[at];
                for (int by = 0; by < 12; by++) {
                    product.second[at][by] = second[at][by] * other.value + first[at] * other.first[by]
                        + first[by] * other.first[at] + value * other.second[at][by];
                }
            }
            return product;
        }
    }

    private final List<Node> nodes = new ArrayList<>();
    private final int[][] inputs = new int[3][12];
    private final int[][] directions = new int[3][12];

    int node(int kind, int x, int y) {
        if (nodes.size() == 12) {
            return -2;
        }
        boolean takesNode = kind >= 2;
        boolean takesTwo = kind >= 2 && kind <= 4;
        if (kind < 0 || kind > 10 || kind == 0 && (x < 0 || x > 2) || takesNode && !there(x)
            || takesTwo && !there(y) || kind == 7 && (y < 0 || y > 3)) {
            return -1;
        }
        boolean mustBeVector = kind == 5 || kind == 6 || kind == 7 || kind == 10;
        if (mustBeVector && !nodes.get(x).vector || kind == 8 && nodes.get(x).vector) {
            return -3;
        }
        boolean vector = kind == 0 || kind == 6 || kind == 8 || kind == 10
            || kind == 9 && nodes.get(x).vector
            || takesTwo && (nodes.get(x).vector || nodes.get(y).vector);
        nodes.add(new Node(kind, x, y, vector));
        return nodes.size() - 1;
    }

    int forget() {
        int had = nodes.size();
        nodes.clear();
        return had;
    }

    boolean set(int at, int example, int value) {
        return put(inputs, at, example, value);
    }

    boolean aim(int at, int example, int value) {
        return put(directions, at, example, value);
    }

    int input(int at, int example) {
        return within(at, 12) && within(example, 3) ? inputs[example][at] : 0;
    }

    int isVector(int n) {
        return there(n) ? nodes.get(n).vector ? 1 : 0 : -1;
    }

    int value(int n, int i, int example) {
        return has(n, i) && within(example, 3) ? jets(n, example)[i].value : 0;
    }

    int slope(int n, int at, int example) {
        return number(n) && within(at, 12) && within(example, 3) ? jets(n, example)[0].first[at] : 0;
    }

    int bend(int n, int at, int by, int example) {
        boolean good = number(n) && within(at, 12) && within(by, 12) && within(example, 3);
        return good ? jets(n, example)[0].second[at][by] : 0;
    }

    int along(int n, int i, int example) {
        if (!has(n, i) || !within(example, 3)) {
            return 0;
        }
        Jet jet = jets(n, example)[i];
        int sum = 0;
        for (int at = 0; at < 12; at++) {
            sum += jet.first[at] * directions[example][at];
        }
        return sum;
    }

    int slopeOfAll(int n, int at) {
        return slope(n, at, 0) + slope(n, at, 1) + slope(n, at, 2);
    }

    boolean step(int n, int input, int example, int rate) {
        if (!number(n) || !within(input, 3) || !within(example, 3)) {
            return false;
        }
        Jet jet = jets(n, example)[0];
        for (int at = 4 * input; at < 4 * input + 4; at++) {
            inputs[example][at] -= rate * jet.first[at];
        }
        return true;
    }

    boolean level(int k) {
        return within(k, 3);
    }

    int size() {
        return nodes.size();
    }

    private static boolean within(int k, int bound) {
        return k >= 0 && k < bound;
    }

    private boolean there(int n) {
        return within(n, nodes.size());
    }

    private boolean number(int n) {
        return there(n) && !nodes.get(n).vector;
    }

    private boolean has(int n, int i) {
        return there(n) && within(i, nodes.get(n).vector ? 4 : 1);
    }

    private static boolean put(int[][] into, int at, int example, int value) {
        if (!within(at, 12) || !within(example, 3)) {
            return false;
        }
        into[example][at] = value;
        return true;
    }

    private Jet[] jets(int n, int example) {
        List<Jet[]> done = new ArrayList<>();
        for (int m = 0; m <= n; m++) {
            done.add(jetsOf(nodes.get(m), done, example));
        }
        return done.get(n);
    }

    private Jet[] jetsOf(Node node, List<Jet[]> done, int example) {
        Jet[] made = new Jet[node.vector ? 4 : 1];
        Jet[] x = node.kind >= 2 ? done.get(node.x) : null;
        Jet[] y = node.kind >= 2 && node.kind <= 4 ? done.get(node.y) : null;
        for (int i = 0; i < made.length; i++) {
            made[i] = switch (node.kind) {
                case 0 -> inputJet(4 * node.x + i, example);
                case 1 -> intJet(node.x);
                case 2 -> pick(x, i).plus(pick(y, i), 1);
                case 3 -> pick(x, i).plus(pick(y, i), -1);
                case 4 -> pick(x, i).times(pick(y, i));
                case 5 -> x[0].plus(x[1], 1).plus(x[2], 1).plus(x[3], 1);
                case 6 -> x[i == 3 ? 0 : i + 1];
                case 7 -> x[node.y];
                case 8 -> x[0];
                case 9 -> x[i].value > 0 ? x[i] : new Jet();
                default -> i == 0 ? x[0] : made[i - 1].plus(x[i], 1);
            };
        }
        return made;
    }

    private static Jet pick(Jet[] part, int i) {
        return part.length == 1 ? part[0] : part[i];
    }

    private Jet inputJet(int at, int example) {
        Jet jet = new Jet();
        jet.value = inputs[example][at];
        jet.first[at] = 1;
        return jet;
    }

    private static Jet intJet(int value) {
        Jet jet = new Jet();
        jet.value = value;
        return jet;
    }
}
