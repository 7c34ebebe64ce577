/** The maps that tests begin with. */
final class Maps {
    private static final int[] COLUMNS = {0, 85, 0, -85};

    private Maps() {
    }

    static TornFringes sized(int r, int c) {
        TornFringes x = new TornFringes();
        must("size", x.size(r, c));
        return x;
    }

    /** A map whose phases are these, row by row. */
    static TornFringes of(int r, int c, int... phases) {
        TornFringes x = sized(r, c);
        for (int p = 0; p < phases.length; p++) {
            if (phases[p] != 0) {
                x.phase(p, phases[p]);
            }
        }
        return x;
    }

    /** 4 by 4: ring 0 is 1, ring 4 is -1, no other ring is torn. */
    static TornFringes pair() {
        return of(4, 4, 0, 64, 0, 0, -64, 127);
    }

    /**
     * Each ring told is torn, no other one: those told as 1 + their number by 1, as -1 - their number by -1
     * (round it the phase turns once).
     */
    static TornFringes vortices(int r, int c, int... rings) {
        TornFringes x = sized(r, c);
        for (int p = 0; p < r * c; p++) {
            double angle = 0;
            for (int ring : rings) {
                int at = Math.abs(ring) - 1;
                double down = p / c - (at / c + 0.5);
                double right = p % c - (at % c + 0.5);
                angle += Math.signum(ring) * Math.atan2(down, right);
            }
            x.phase(p, (int) Math.round(angle / (2 * Math.PI) * 255));
        }
        must("as many torn rings as told", x.look(3) == rings.length);
        for (int ring : rings) {
            must("torn as told: " + ring, x.charge(Math.abs(ring) - 1) == Integer.signum(ring));
        }
        return x;
    }

    /** The greatest map, all its 121 rings torn: in even rows 1 -1 -1 1 .., in odd ones -1 1 1 -1 .. */
    static TornFringes allTorn() {
        StringBuilder told = new StringBuilder();
        for (int row = 0; row < 12; row++) {
            told.append(row > 0 ? ";" : "");
            for (int col = 0; col < 12; col++) {
                told.append(String.format("%02x", COLUMNS[(col + 2 * row) % 4] + 128));
            }
        }
        return told(told.toString());
    }

    /** The greatest map, each edge cut by hand. */
    static TornFringes allCut() {
        TornFringes x = sized(12, 12);
        int count = 0;
        for (int e = 0; e < 288; e++) {
            count += x.cut(e, true) ? 1 : 0;
        }
        must("264 edges", count == 264);
        return x;
    }

    /** 2 by 4, a slope of 100 a column, cut between columns 1 and 2: islands at 0, 100 and -55, 45. */
    static TornFringes islands() {
        TornFringes x = sized(2, 4);
        x.ramp(0, 100);
        x.cut(2, true);
        x.cut(10, true);
        flood(x);
        must("two islands", x.look(7) == 2);
        return x;
    }

    static void flood(TornFringes x) {
        x.begin();
        x.step(144);
    }

    /** Feeds a text behind what the tape has. */
    static void tell(TornFringes x, String told) {
        StringBuilder whole = new StringBuilder(told);
        while (whole.length() % 20 > 0) {
            whole.append('\0');
        }
        int was = x.look(13);
        for (int i = 0; i < whole.length(); i += 20) {
            int[] v = new int[5];
            for (int k = 0; k < 20; k++) {
                v[k / 4] = v[k / 4] << 8 | whole.charAt(i + k);
            }
            must("feed", x.feed(v[0], v[1], v[2], v[3], v[4]) == was + i + 20);
        }
        must("end", x.end(was + told.length()));
    }

    static TornFringes told(String told) {
        TornFringes x = new TornFringes();
        tell(x, told);
        must("text " + told, x.text() > 0);
        return x;
    }

    /** A text of so many rows and columns, each pixel 5a (its phase is -38). */
    static String rowsOf(int rows, int cols) {
        StringBuilder told = new StringBuilder();
        for (int row = 0; row < rows; row++) {
            told.append(row > 0 ? ";" : "").append("5a".repeat(cols));
        }
        return told.toString();
    }

    /** A test can't go on from a map that is not as it was to be. */
    private static void must(String what, boolean is) {
        if (!is) {
            throw new IllegalStateException("not as it must be: " + what);
        }
    }
}
