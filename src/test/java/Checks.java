/** Counts the answers that are not the due ones, and prints each. */
final class Checks {
    private int wrong = 0;
    private int all = 0;
    private String about = "";

    void about(String what) {
        about = what;
    }

    void due(String call, long got, long want) {
        all++;
        if (got != want) {
            wrong++;
            System.out.println(about + ": " + call + " answered " + got + ", due is " + want);
        }
    }

    void due(String call, boolean got, boolean want) {
        due(call, got ? 1 : 0, want ? 1 : 0);
    }

    /** All that can be asked of an object is answered as it was before. */
    void same(String what, TornFringes x, Everything before) {
        same(what, before, Everything.of(x));
    }

    void same(String what, Everything before, Everything now) {
        all++;
        String other = now.otherThan(before);
        if (!other.isEmpty()) {
            wrong++;
            System.out.println(about + ": " + what + ": " + other);
        }
    }

    int wrong() {
        return wrong;
    }

    void end(String name) {
        System.out.println(name + ": " + all + " answers looked at, " + wrong + " wrong");
        if (wrong > 0 || all == 0) {
            System.exit(1);
        }
    }
}
