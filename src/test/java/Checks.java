/** Counts the answers that are not the due ones, and prints each. */
final class Checks {
    private int wrong = 0;
    private int all = 0;
    private String about = "";

    void about(String what) {
        about = what;
    }

    void due(String call, long got, long want) {
        all++;
        if (got != want) {
            wrong++;
            System.out.println(about + ": " + call + " answered " + got + ", due is " + want);
        }
    }

    void due(String call, boolean got, boolean want) {
        due(call, got ? 1 : 0, want ? 1 : 0);
    }

    int wrong() {
        return wrong;
    }

    void end(String name) {
        System.out.println(name + ": " + all + " answers looked at, " + wrong + " wrong");
        if (wrong > 0 || all == 0) {
            System.exit(1);
        }
    }
}
