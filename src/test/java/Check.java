/** Counts answers and prints those that are not as due. */
final class Check {
    private int right;
    private int wrong;

    void due(String call, long got, long want) {
        if (got == want) {
            right++;
            return;
        }
        wrong++;
        if (wrong <= 50) {
            System.out.println(call + " answered " + got + ", due is " + want);
        }
    }

    void yes(String call, boolean got) {
        due(call, got ? 1 : 0, 1);
    }

    void no(String call, boolean got) {
        due(call, got ? 1 : 0, 0);
    }

    void that(boolean holds, String what) {
        if (holds) {
            right++;
            return;
        }
        wrong++;
        if (wrong <= 50) {
            System.out.println("does not hold: " + what);
        }
    }

    int wrong() {
        return wrong;
    }

    void end() {
        System.out.println(right + " answers as due, " + wrong + " not");
        if (wrong != 0) {
            System.exit(1);
        }
    }
}
