/** Compares answers with the ones that are due, and counts the wrong ones. */
final class Check {
    private static int answers = 0;
    private static int wrong = 0;

    private Check() {
    }

    static void due(String call, long got, long want) {
        answers++;
        if (got != want) {
            wrong++;
            if (wrong <= 40) {
                System.out.println(call + " answered " + got + ", due is " + want);
            }
        }
    }

    static void holds(String rule, boolean so) {
        due(rule, so ? 1 : 0, 1);
    }

    static boolean anyWrong() {
        return wrong != 0;
    }

    static void ends() {
        System.out.println(answers + " answers, " + wrong + " wrong");
        if (wrong != 0) {
            System.exit(1);
        }
    }
}
