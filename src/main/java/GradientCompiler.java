/** Small programs over vectors, and their derivatives of first and second order. */
public final class GradientCompiler {
    public static final int BAD = -1;
    public static final int FULL = -2;
    public static final int WRONG = -3;

    private static final int INPUT = 0;
    private static final int CONSTANT = 1;
    private static final int PLUS = 2;
    private static final int MINUS = 3;
    private static final int TIMES = 4;
    private static final int SUM = 5;
    private static final int TURNED = 6;
    private static final int COMPONENT = 7;
    private static final int SPREAD = 8;
    private static final int ABOVE_ZERO = 9;
    private static final int RUNNING_SUM = 10;

    private static final int NODES = 12;
    private static final int INPUTS = 3;
    private static final int EXAMPLES = 3;
    private static final int WIDTH = 4;
    private static final int PLACES = INPUTS * WIDTH;
    private static final int ALL_PLACES = EXAMPLES * PLACES;
    private static final int CELLS = EXAMPLES * NODES * WIDTH;

    private static final int GREATEST_LEVEL = 2;
    /** Stands where an input's component may stand, so it must be none of 0..11. */
    private static final int DIRECTION = -1;

    private final int[] inputs = new int[ALL_PLACES];
    private final int[] directions = new int[ALL_PLACES];
    private final int[] stepped = new int[WIDTH];

    // The operands are kept as given: one that a kind does not have may be any int,
    // so a cell reckoned from it is never read.
    private final int[] kinds = new int[NODES];
    private final int[] xs = new int[NODES];
    private final int[] ys = new int[NODES];
    private final boolean[] vectors = new boolean[NODES];
    private int count = 0;

    // A number fills all four of its cells, so that vectors and numbers mix
    // component by component without being told apart.
    private final int[] values = new int[CELLS];
    private final int[] byFirst = new int[CELLS];
    private final int[] bySecond = new int[CELLS];
    private final int[] byBoth = new int[CELLS];

    /** For each example, how many nodes, from 0 on, have cells in values that still hold. */
    private final int[] standing = new int[EXAMPLES];

    /** 0: nothing is spared; 1: along takes one pass instead of twelve; 2: values are kept, too. */
    private int chosenLevel = GREATEST_LEVEL;

    public GradientCompiler() {
    }

    public int node(int kind, int x, int y) {
        if (count == NODES) {
            return FULL;
        }
        if (!operandsExist(kind, x, y)) {
            return BAD;
        }
        if (!operandsFit(kind, x)) {
            return WRONG;
        }
        kinds[count] = kind;
        xs[count] = x;
        ys[count] = y;
        vectors[count] = makesVector(kind, x, y);
        count++;
        return count - 1;
    }

    public int forget() {
        int had = count;
        count = 0;
        for (int example = 0; example < EXAMPLES; example++) {
            standing[example] = 0;
        }
        return had;
    }

    public boolean set(int at, int example, int value) {
        if (!isPlace(at) || !isExample(example)) {
            return false;
        }
        inputs[example * PLACES + at] = value;
        standing[example] = 0;
        return true;
    }

    public boolean aim(int at, int example, int value) {
        if (!isPlace(at) || !isExample(example)) {
            return false;
        }
        directions[example * PLACES + at] = value;
        return true;
    }

    public int input(int at, int example) {
        if (!isPlace(at) || !isExample(example)) {
            return 0;
        }
        return inputs[example * PLACES + at];
    }

    public int isVector(int n) {
        if (!isNode(n)) {
            return BAD;
        }
        return vectors[n] ? 1 : 0;
    }

    public int value(int n, int i, int example) {
        if (!hasComponent(n, i) || !isExample(example)) {
            return 0;
        }
        workOutValues(n, example);
        return values[firstCell(n, example) + i];
    }

    public int slope(int n, int at, int example) {
        if (!isNumber(n) || !isPlace(at) || !isExample(example)) {
            return 0;
        }
        return derivative(n, 0, at, example);
    }

    public int bend(int n, int at, int by, int example) {
        if (!isNumber(n) || !isPlace(at) || !isPlace(by) || !isExample(example)) {
            return 0;
        }
        workOutValues(n, example);
        workOutDerivatives(byFirst, n, at, example);
        workOutDerivatives(bySecond, n, by, example);
        workOutSecondDerivatives(n, example);
        return byBoth[firstCell(n, example)];
    }

    public int along(int n, int i, int example) {
        if (!hasComponent(n, i) || !isExample(example)) {
            return 0;
        }
        if (chosenLevel > 0) {
            // Every rule for derivatives is linear in those of the parts, so one
            // pass that starts from the direction gives the whole sum.
            return derivative(n, i, DIRECTION, example);
        }
        int sum = 0;
        for (int at = 0; at < PLACES; at++) {
            sum += derivative(n, i, at, example) * directions[example * PLACES + at];
        }
        return sum;
    }

    public int slopeOfAll(int n, int at) {
        if (!isNumber(n) || !isPlace(at)) {
            return 0;
        }
        int sum = 0;
        for (int example = 0; example < EXAMPLES; example++) {
            sum += derivative(n, 0, at, example);
        }
        return sum;
    }

    public boolean step(int n, int input, int example, int rate) {
        if (!isNumber(n) || input < 0 || input >= INPUTS || !isExample(example)) {
            return false;
        }
        int first = example * PLACES + WIDTH * input;
        // All at once: no derivative may see a component that has already moved.
        for (int i = 0; i < WIDTH; i++) {
            stepped[i] = inputs[first + i] - rate * derivative(n, 0, WIDTH * input + i, example);
        }
        for (int i = 0; i < WIDTH; i++) {
            inputs[first + i] = stepped[i];
        }
        standing[example] = 0;
        return true;
    }

    public boolean level(int k) {
        if (k < 0 || k > GREATEST_LEVEL) {
            return false;
        }
        chosenLevel = k;
        return true;
    }

    private boolean isNode(int n) {
        return n >= 0 && n < count;
    }

    private boolean isNumber(int n) {
        return isNode(n) && !vectors[n];
    }

    private boolean hasComponent(int n, int i) {
        return isNode(n) && i >= 0 && i < (vectors[n] ? WIDTH : 1);
    }

    private static boolean isPlace(int at) {
        return at >= 0 && at < PLACES;
    }

    private static boolean isExample(int example) {
        return example >= 0 && example < EXAMPLES;
    }

    private boolean operandsExist(int kind, int x, int y) {
        switch (kind) {
            case INPUT:
                return x >= 0 && x < INPUTS;
            case CONSTANT:
                return true;
            case PLUS:
            case MINUS:
            case TIMES:
                return isNode(x) && isNode(y);
            case COMPONENT:
                return isNode(x) && y >= 0 && y < WIDTH;
            case SUM:
            case TURNED:
            case SPREAD:
            case ABOVE_ZERO:
            case RUNNING_SUM:
                return isNode(x);
            default:
                return false;
        }
    }

    private boolean operandsFit(int kind, int x) {
        switch (kind) {
            case SUM:
            case TURNED:
            case COMPONENT:
            case RUNNING_SUM:
                return vectors[x];
            case SPREAD:
                return !vectors[x];
            default:
                return true;
        }
    }

    private boolean makesVector(int kind, int x, int y) {
        switch (kind) {
            case CONSTANT:
            case SUM:
            case COMPONENT:
                return false;
            case PLUS:
            case MINUS:
            case TIMES:
                return vectors[x] || vectors[y];
            case ABOVE_ZERO:
                return vectors[x];
            default:
                return true;
        }
    }

    private static int firstCell(int n, int example) {
        return (example * NODES + n) * WIDTH;
    }

    private void workOutValues(int n, int example) {
        int from = chosenLevel == GREATEST_LEVEL ? standing[example] : 0;
        for (int m = from; m <= n; m++) {
            int cell = firstCell(m, example);
            for (int i = 0; i < WIDTH; i++) {
                values[cell + i] = valueOf(m, i, example);
            }
        }
        if (standing[example] <= n) {
            standing[example] = n + 1;
        }
    }

    private int derivative(int n, int i, int at, int example) {
        workOutValues(n, example);
        workOutDerivatives(byFirst, n, at, example);
        return byFirst[firstCell(n, example) + i];
    }

    /** Needs the values of the nodes up to n. */
    private void workOutDerivatives(int[] cells, int n, int at, int example) {
        for (int m = 0; m <= n; m++) {
            int cell = firstCell(m, example);
            for (int i = 0; i < WIDTH; i++) {
                cells[cell + i] = derivativeOf(cells, m, i, at, example);
            }
        }
    }

    /** Needs the values of the nodes up to n, and their derivatives by each of the two. */
    private void workOutSecondDerivatives(int n, int example) {
        for (int m = 0; m <= n; m++) {
            int cell = firstCell(m, example);
            for (int i = 0; i < WIDTH; i++) {
                byBoth[cell + i] = secondDerivativeOf(m, i, example);
            }
        }
    }

    private int valueOf(int n, int i, int example) {
        int x = firstCell(xs[n], example) + i;
        int y = firstCell(ys[n], example) + i;
        switch (kinds[n]) {
            case INPUT:
                return inputs[example * PLACES + WIDTH * xs[n] + i];
            case CONSTANT:
                return xs[n];
            case TIMES:
                return values[x] * values[y];
            case ABOVE_ZERO:
                return values[x] > 0 ? values[x] : 0;
            default:
                return combined(values, n, i, example);
        }
    }

    private int derivativeOf(int[] cells, int n, int i, int at, int example) {
        int x = firstCell(xs[n], example) + i;
        int y = firstCell(ys[n], example) + i;
        switch (kinds[n]) {
            case INPUT:
                return startOf(WIDTH * xs[n] + i, at, example);
            case CONSTANT:
                return 0;
            case TIMES:
                return cells[x] * values[y] + values[x] * cells[y];
            case ABOVE_ZERO:
                return values[x] > 0 ? cells[x] : 0;
            default:
                return combined(cells, n, i, example);
        }
    }

    private int startOf(int place, int at, int example) {
        if (at == DIRECTION) {
            return directions[example * PLACES + place];
        }
        return place == at ? 1 : 0;
    }

    private int secondDerivativeOf(int n, int i, int example) {
        int x = firstCell(xs[n], example) + i;
        int y = firstCell(ys[n], example) + i;
        switch (kinds[n]) {
            case INPUT:
            case CONSTANT:
                return 0;
            case TIMES:
                return byBoth[x] * values[y] + byFirst[x] * bySecond[y]
                    + bySecond[x] * byFirst[y] + values[x] * byBoth[y];
            case ABOVE_ZERO:
                return values[x] > 0 ? byBoth[x] : 0;
            default:
                return combined(byBoth, n, i, example);
        }
    }

    /** The kinds that do with the derivatives of their parts just what they do with the values. */
    private int combined(int[] cells, int n, int i, int example) {
        int x = firstCell(xs[n], example);
        int y = firstCell(ys[n], example);
        switch (kinds[n]) {
            case PLUS:
                return cells[x + i] + cells[y + i];
            case MINUS:
                return cells[x + i] - cells[y + i];
            case SUM:
                return sumOf(cells, x, WIDTH);
            case TURNED:
                return cells[x + ((i + 1) & 3)];
            case COMPONENT:
                return cells[x + ys[n]];
            case SPREAD:
                return cells[x + i];
            case RUNNING_SUM:
                return sumOf(cells, x, i + 1);
            default:
                return 0;
        }
    }

    private static int sumOf(int[] cells, int first, int length) {
        int sum = 0;
        for (int i = 0; i < length; i++) {
            sum += cells[first + i];
        }
        return sum;
    }
}
