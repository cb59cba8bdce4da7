/** Promises 4, 5 and 6: set, aim and input. */
public final class InputsTest {
    private static final int[] NO_PLACE = {Integer.MIN_VALUE, -4, -1, 12, 13, 36, Integer.MAX_VALUE};
    private static final int[] NO_EXAMPLE = {Integer.MIN_VALUE, -1, 3, 4, Integer.MAX_VALUE};

    public static void main(String[] args) {
        everyPlace();
        refusals();
        valuesFollowInputs();
        directionsStandApart();
        extremes();
        Check.end();
    }

    private static int mark(int at, int example) {
        return 1000 * (example + 1) + at;
    }

    private static GradientCompiler marked() {
        GradientCompiler g = new GradientCompiler();
        for (int example = 0; example < 3; example++) {
            for (int at = 0; at < 12; at++) {
                Check.due("set " + at + ", " + example, g.set(at, example, mark(at, example)), true);
                Check.due("aim " + at + ", " + example, g.aim(at, example, -mark(at, example)), true);
            }
        }
        for (int input = 0; input < 3; input++) {
            g.node(0, input, 0);
        }
        return g;
    }

    private static void allAsMarked(String when, GradientCompiler g) {
        for (int example = 0; example < 3; example++) {
            for (int at = 0; at < 12; at++) {
                String place = when + ": " + at + ", " + example;
                Check.due(place + " input", g.input(at, example), mark(at, example));
                Check.due(place + " value", g.value(at / 4, at % 4, example), mark(at, example));
                Check.due(place + " along", g.along(at / 4, at % 4, example), -mark(at, example));
            }
        }
    }

    private static void everyPlace() {
        allAsMarked("all set", marked());
    }

    private static void refusals() {
        GradientCompiler g = marked();
        for (int at : NO_PLACE) {
            for (int example = 0; example < 3; example++) {
                Check.due("set " + at, g.set(at, example, 5), false);
                Check.due("aim " + at, g.aim(at, example, 5), false);
                Check.due("input " + at, g.input(at, example), 0);
            }
        }
        for (int example : NO_EXAMPLE) {
            for (int at = 0; at < 12; at += 11) {
                Check.due("set in example " + example, g.set(at, example, 5), false);
                Check.due("aim in example " + example, g.aim(at, example, 5), false);
                Check.due("input in example " + example, g.input(at, example), 0);
            }
        }
        Check.due("set, both wrong", g.set(-1, 3, 5), false);
        Check.due("aim, both wrong", g.aim(12, -1, 5), false);
        allAsMarked("after refusals", g);
    }

    private static void valuesFollowInputs() {
        for (int level = 0; level < 3; level++) {
            GradientCompiler g = new GradientCompiler();
            g.level(level);
            g.node(0, 1, 0);
            g.node(5, 0, 0);
            for (int k = 0; k < 5; k++) {
                g.set(6, 2, k);
                Check.due("sum after set", g.value(1, 0, 2), k);
                Check.due("sum of another example", g.value(1, 0, 1), 0);
            }
        }
    }

    private static void directionsStandApart() {
        GradientCompiler g = new GradientCompiler();
        g.node(0, 0, 0);
        g.aim(2, 0, 8);
        Check.due("aim leaves the input", g.input(2, 0), 0);
        Check.due("aim leaves the value", g.value(0, 2, 0), 0);
        Check.due("aim shows in along", g.along(0, 2, 0), 8);
        g.set(2, 0, 5);
        Check.due("set leaves the direction", g.along(0, 2, 0), 8);
        g.aim(2, 0, -8);
        Check.due("aim again", g.along(0, 2, 0), -8);
    }

    private static void extremes() {
        GradientCompiler g = new GradientCompiler();
        g.set(11, 2, Integer.MIN_VALUE);
        Check.due("least int", g.input(11, 2), Integer.MIN_VALUE);
        g.set(11, 2, Integer.MAX_VALUE);
        Check.due("greatest int", g.input(11, 2), Integer.MAX_VALUE);
    }
}
