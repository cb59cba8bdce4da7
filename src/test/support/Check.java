import java.util.function.IntConsumer;

/** Counts and prints the answers that are not the ones due; every test of the project ends with end(). */
final class Check {
    private static int made = 0;
    private static int wrong = 0;
    private static int sentences = 0;
    private static String sentence = "";

    private Check() {
    }

    static void due(String what, long got, long want) {
        made++;
        if (got != want) {
            wrong++;
            System.out.println(sentence + what + " answered " + got + ", due is " + want);
        }
    }

    static void due(String what, boolean got, boolean want) {
        due(what, got ? 1 : 0, want ? 1 : 0);
    }

    /** The test of one sentence of the document, at every level that Bench.made takes. */
    static void sentence(String words, IntConsumer test) {
        int before = made;
        for (int level = Bench.AS_NEW; level <= 2; level++) {
            sentence = "'" + words + "'" + (level == Bench.AS_NEW ? ": " : " at level " + level + ": ");
            take(test, level);
        }
        due("looks at some answer", made > before, true);
        sentence = "";
        sentences++;
    }

    private static void take(IntConsumer test, int level) {
        try {
            test.accept(level);
        } catch (RuntimeException thrown) {
            wrong++;
            System.out.println(sentence + "a call threw " + thrown);
        }
    }

    static boolean anyWrong() {
        return wrong != 0;
    }

    static void end() {
        String of = sentences == 0 ? "" : " for " + sentences + " sentences";
        System.out.println(wrong == 0 ? made + " answers are as due" + of : wrong + " of " + made + " answers are not as due");
        if (wrong != 0 || made == 0) {
            System.exit(1);
        }
    }
}
