/** Counts the answers that are not the ones that are due, and prints each of them. */
final class Checks {
    private int wrong;
    private int looked;

    void due(String call, long got, long want) {
        looked++;
        if (got != want) {
            wrong++;
            System.out.println(call + " answered " + got + ", due is " + want);
        }
    }

    void due(String call, boolean got, boolean want) {
        due(call, got ? 1L : 0L, want ? 1L : 0L);
    }

    void atLeast(String what, long got, long least) {
        looked++;
        if (got < least) {
            wrong++;
            System.out.println(what + " is " + got + ", at least " + least + " is due");
        }
    }

    void end() {
        System.out.println(looked + " answers looked at, " + wrong + " not as due");
        if (wrong != 0) {
            System.exit(1);
        }
    }
}
