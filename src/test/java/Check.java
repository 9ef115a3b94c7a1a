/** Holds answers against those that are due; a test ends with exit code 1 if one was wrong. */
final class Check {
    private static int wrong = 0;
    private static int held = 0;

    private Check() {
    }

    static void due(int promise, String call, long got, long due) {
        held++;
        if (got != due) {
            wrong++;
            System.out.println("promise " + promise + ": " + call + " answered " + got + ", due is " + due);
        }
    }

    static void same(String what, String got, String due) {
        held++;
        if (!got.equals(due)) {
            wrong++;
            System.out.println(what + ": " + got + ", due is " + due);
        }
    }

    static void end() {
        System.out.println(held + " answers, " + wrong + " wrong");
        if (wrong != 0 || held == 0) {
            System.exit(1);
        }
    }
}
