/** Terms 1, the map: a test for each sentence that names a boundary case. */
public final class TermsMapTest {
    private static final int MIN = Integer.MIN_VALUE;
    private static final int MAX = Integer.MAX_VALUE;
    private static final Checks checks = new Checks();

    private TermsMapTest() {
    }

    public static void main(String[] args) {
        sides();
        sidesThatCannotBe();
        atFirst();
        rowsAndColumns();
        wrapping();
        wrappingAtTheEnds();
        wrappingByRampAndNoise();
        edgesThatAre();
        shutByOneOrBoth();
        cutByJoiningOrHand();
        stepsWrapped();
        ringsThatAre();
        chargesOfAllKinds();
        chargeOfHidden();
        hiddenAndTorn();
        checks.end("TermsMapTest");
    }

    private static void due(String call, long got, long want) {
        checks.due(call, got, want);
    }

    private static void due(String call, boolean got, boolean want) {
        checks.due(call, got, want);
    }

    private static void sides() {
        checks.about("R by C PIXELS (2 .. 12 each)");
        for (int r = -1; r <= 14; r++) {
            for (int c = -1; c <= 14; c++) {
                TornFringes x = new TornFringes();
                boolean can = r >= 2 && r <= 12 && c >= 2 && c <= 12;
                due("size " + r + " " + c, x.size(r, c), can);
                due("rows", x.look(0), can ? r : 4);
                due("columns", x.look(1), can ? c : 4);
                due("to be laid", x.begin(), can ? r * c : 16);
                due("acts", x.look(12), can ? 1 : 0);
            }
        }
    }

    private static void sidesThatCannotBe() {
        checks.about("R by C PIXELS, sides that only look right in fewer bits");
        TornFringes x = new TornFringes();
        int[] wrong = {MIN, MAX, MIN + 4, 256 + 4, 65536 + 4, 4 - 256, 4 - 65536, 1 << 30, -4};
        for (int side : wrong) {
            due("size " + side, x.size(side, 4), false);
            due("size " + side, x.size(4, side), false);
            due("size " + side, x.size(side, side), false);
        }
        due("acts", x.look(12), 0);
    }

    private static void atFirst() {
        checks.about("a PHASE (0 at first), a GRADE (50 at first), not HIDDEN at first");
        for (TornFringes x : new TornFringes[] {new TornFringes(), Maps.sized(2, 2), Maps.sized(12, 12)}) {
            for (int p = 0; p < x.look(0) * x.look(1); p++) {
                due("phase", x.pixel(p, 0), 0);
                due("grade", x.pixel(p, 1), 50);
                due("hidden", x.pixel(p, 2), 0);
            }
            due("no pixel", x.pixel(x.look(0) * x.look(1), 0), -1000);
        }
        // A map told again has nothing of the one before, also where that was greater.
        TornFringes y = Maps.sized(12, 12);
        y.ramp(3, 5);
        y.grades(1);
        y.hide(143, true);
        y.cut(260, true);
        y.size(2, 2);
        y.size(12, 12);
        due("phase", y.pixel(142, 0), 0);
        due("grade", y.pixel(142, 1), 50);
        due("hidden", y.pixel(143, 2), 0);
        due("by hand", y.edge(260, 3), 0);
    }

    private static void rowsAndColumns() {
        checks.about("PIXEL p is at row p by C, column p modulo C");
        for (int r = 2; r <= 12; r++) {
            for (int c = 2; c <= 12; c++) {
                TornFringes x = Maps.sized(r, c);
                x.ramp(10, 1);
                int p = 0;
                for (int row = 0; row < r; row++) {
                    for (int col = 0; col < c; col++) {
                        due("phase of " + p, x.pixel(p, 0), 10 * row + col);
                        p++;
                    }
                }
            }
        }
    }

    /** Whole turns taken off or added, one by one. */
    private static int wrapped(int v) {
        int left = v;
        while (left > 127) {
            left -= 255;
        }
        while (left < -127) {
            left += 255;
        }
        return left;
    }

    private static void wrapping() {
        checks.about("whole TURNS are taken off or added until it is so");
        TornFringes x = Maps.sized(2, 2);
        for (int v = -1300; v <= 1300; v++) {
            due("phase " + v, x.phase(3, v), wrapped(v));
            due("phase is " + v, x.pixel(3, 0), wrapped(v));
        }
        for (int turns : new int[] {1, 2, 1000, 8421504, -1, -2, -1000, -8421504}) {
            for (int left : new int[] {-127, -126, -1, 0, 1, 126, 127}) {
                due("phase of " + turns + " turns", x.phase(0, turns * 255 + left), left);
            }
        }
    }

    private static void wrappingAtTheEnds() {
        checks.about("PHASE: any int");
        TornFringes x = Maps.sized(2, 2);
        // 2147483647 is 8421504 turns and 127, -2147483648 as many turns less and -128.
        due("the greatest int", x.phase(0, MAX), 127);
        due("one less", x.phase(0, MAX - 1), 126);
        due("127 less", x.phase(0, MAX - 127), 0);
        due("254 less", x.phase(0, MAX - 254), -127);
        due("255 less", x.phase(0, MAX - 255), 127);
        due("the least int", x.phase(0, MIN), 127);
        due("one more", x.phase(0, MIN + 1), -127);
        due("128 more", x.phase(0, MIN + 128), 0);
        due("255 more", x.phase(0, MIN + 255), 127);
    }

    private static void wrappingByRampAndNoise() {
        checks.about("all that is told of it is WRAPPED");
        TornFringes x = Maps.of(2, 2, 127, 127, 127, -127);
        due("ramp", x.ramp(1, 0), true);
        due("127 and 1", x.pixel(2, 0), -127);
        due("-127 and 1", x.pixel(3, 0), -126);
        due("ramp", x.ramp(-1, -1), true);
        due("-127 less 1", x.pixel(2, 0), 127);
        due("-126 less 2", x.pixel(3, 0), 127);
        TornFringes y = Maps.sized(12, 12);
        due("ramp", y.ramp(999, 999), true);
        due("farthest", y.pixel(143, 0), wrapped(22 * 999));
        due("ramp", y.ramp(-999, -999), true);
        due("ramp", y.ramp(-999, -999), true);
        due("farthest", y.pixel(143, 0), wrapped(-22 * 999));
        // STATE 0: the first DRAW is 3960563 (pixel 3 of 4), the second 4673577 (12 of 65): 20 less.
        TornFringes z = Maps.of(2, 2, 0, 0, 0, -120);
        due("noise", z.noise(1), true);
        due("-120 less 20", z.pixel(3, 0), 115);
    }

    private static void edgesThatAre() {
        checks.about("EDGES: 2 p to the right, 2 p + 1 below (if there is one)");
        for (int r = 2; r <= 12; r++) {
            for (int c = 2; c <= 12; c++) {
                edgesOf(Maps.sized(r, c), r, c);
            }
        }
    }

    private static void edgesOf(TornFringes x, int r, int c) {
        x.ramp(20, 3);
        int count = 0;
        for (int e = -2; e < 300; e++) {
            boolean right = e >= 0 && e % 2 == 0 && e < 2 * r * c && e / 2 % c < c - 1;
            boolean below = e >= 0 && e % 2 == 1 && e / 2 + c < r * c;
            due(r + " by " + c + " edge " + e, x.edge(e, 0), right ? 3 : below ? 20 : -1000);
            due("grade of edge " + e, x.edge(e, 6), right || below ? 50 : -1000);
            count += x.cut(e, true) ? 1 : 0;
        }
        due("edges", count, r * (c - 1) + c * (r - 1));
        due("all cut", x.look(5), count);
        for (int e : new int[] {2 * r * c, MAX, MAX - 1, MIN, MIN + 1}) {
            due("no edge " + e, x.edge(e, 0), -1000);
            due("no edge " + e, x.cut(e, true), false);
            due("no edge " + e, x.apart(e), -1);
        }
    }

    private static void shutByOneOrBoth() {
        checks.about("An EDGE is SHUT if one of both is HIDDEN");
        TornFringes x = Maps.sized(2, 2);
        due("neither", x.edge(0, 1), 0);
        x.hide(0, true);
        due("the first", x.edge(0, 1), 1);
        due("the first, downwards", x.edge(1, 1), 1);
        due("not the others", x.edge(3, 1), 0);
        x.hide(1, true);
        due("both", x.edge(0, 1), 1);
        x.hide(0, false);
        due("the second", x.edge(0, 1), 1);
        due("no more", x.edge(1, 1), 0);
        x.hide(1, false);
        due("neither", x.edge(0, 1), 0);
    }

    private static void cutByJoiningOrHand() {
        checks.about("it is CUT if a CUT of JOINING goes over it, or by HAND");
        TornFringes x = Maps.pair();
        due("not cut", x.look(5), 0);
        x.cut(8, true);
        due("by hand", x.look(5), 1);
        x.join(0);
        due("by both", x.look(5), 1);
        due("over it", x.edge(8, 2), 1);
        due("by hand", x.edge(8, 3), 1);
        x.cut(8, false);
        due("by joining", x.look(5), 1);
        Maps.flood(x);
        due("not gone over", x.pixel(5, 4), 1);
        due("not a jump, but a tear", 10 * x.edge(8, 4) + x.edge(8, 5), 1);
        x.phase(0, 1);
        x.phase(1, 0);
        x.phase(4, 0);
        x.phase(5, 0);
        x.join(0);
        due("by none", x.look(5), 0);
    }

    private static void stepsWrapped() {
        checks.about("STEP from a to b: PHASE of b less that of a, WRAPPED");
        TornFringes x = Maps.sized(2, 2);
        for (int a = -127; a <= 127; a++) {
            x.phase(0, a);
            for (int b = -127; b <= 127; b += a % 16 == 0 || Math.abs(a) == 127 ? 1 : 127) {
                x.phase(1, b);
                due("step " + a + " " + b, x.edge(0, 0), wrapped(b - a));
            }
        }
        x.phase(0, 127);
        x.phase(1, -127);
        due("254 less", x.edge(0, 0), 1);
        x.phase(0, 64);
        x.phase(1, -64);
        due("-128", x.edge(0, 0), 127);
        x.phase(1, -63);
        due("-127", x.edge(0, 0), -127);
        x.hide(0, true);
        due("of a hidden one, too", x.edge(0, 0), -127);
    }

    private static void ringsThatAre() {
        checks.about("RINGS, by the number of their upper left PIXEL");
        for (int r = 2; r <= 12; r++) {
            for (int c = 2; c <= 12; c++) {
                TornFringes x = Maps.sized(r, c);
                int count = 0;
                for (int ring = -2; ring < 150; ring++) {
                    boolean is = ring >= 0 && ring / c < r - 1 && ring % c < c - 1;
                    count += is ? 1 : 0;
                    due("charge " + ring, x.charge(ring), is ? 0 : -1000);
                    due("far " + ring, x.far(ring, 0) >= 0, is);
                    due("far to " + ring, x.far(0, ring) >= 0, is || ring == -1);
                }
                due("rings", count, (r - 1) * (c - 1));
                due("no ring", x.charge(MIN), -1000);
                due("no ring", x.charge(MAX), -1000);
            }
        }
    }

    private static void chargesOfAllKinds() {
        checks.about("CHARGE: STEPS round it, together, by 255 (-1, 0, 1)");
        // Round as right, down, left, up: 0, 64, 127, -64.
        due("1", Maps.of(2, 2, 0, 64, -64, 127).charge(0), 1);
        due("-1", Maps.of(2, 2, 0, -64, 64, 127).charge(0), -1);
        due("0", Maps.of(2, 2, 0, 64, 64, 127).charge(0), 0);
        // Three steps of 127 and one of -126; the same turned round.
        due("1", Maps.of(2, 2, 0, 127, 126, -1).charge(0), 1);
        due("-1", Maps.of(2, 2, 0, -127, -126, 1).charge(0), -1);
        // Steps 127, 1, 127, 0; then 127, 0, 127, 1.
        due("just a turn", Maps.of(2, 2, 0, 127, 0, -127).charge(0), 1);
        due("just a turn", Maps.of(2, 2, 0, 127, -1, 127).charge(0), 1);
        // Steps 127, 0, -127, 0.
        due("there and back", Maps.of(2, 2, 0, 127, 0, 127).charge(0), 0);
        TornFringes x = Maps.of(2, 2, 0, 64, -64, 127);
        due("torn", x.torn(-1), 1);
        due("together", x.look(4), 1);
        due("loop", x.loop(0, 1, 0, 1), 1);
    }

    private static void chargeOfHidden() {
        checks.about("CHARGE: 0 if one of the four is HIDDEN; those with CHARGE not 0 are TORN");
        for (int p = 0; p < 4; p++) {
            TornFringes x = Maps.of(2, 2, 0, 64, -64, 127);
            x.hide(p, true);
            due("hidden " + p, x.charge(0), 0);
            due("not torn", x.look(3), 0);
            due("not torn", x.torn(-1), 0);
            due("not torn", x.torn(0), -1);
            due("together", x.look(4), 0);
            x.hide(p, false);
            due("shown " + p, x.charge(0), 1);
        }
        // Pixels beside the four do not count.
        TornFringes y = Maps.vortices(4, 4, 1 + 5);
        for (int p : new int[] {0, 1, 2, 3, 4, 7, 8, 11, 12, 13, 14, 15}) {
            y.hide(p, true);
        }
        due("hidden all round", y.charge(5), 1);
    }

    private static void hiddenAndTorn() {
        checks.about("the greatest map, all RINGS TORN");
        TornFringes x = Maps.allTorn();
        due("torn", x.look(3), 121);
        due("torn", x.torn(-1), 121);
        int together = 0;
        int i = 0;
        for (int ring = 0; ring < 132; ring++) {
            if (ring % 12 < 11) {
                int col = ring % 12 % 4;
                int sign = (col == 0 || col == 3) == (ring / 12 % 2 == 0) ? 1 : -1;
                due("charge " + ring, x.charge(ring), sign);
                due("torn " + i, x.torn(i), ring);
                together += sign;
                i++;
            }
        }
        due("no more", x.torn(121), -1);
        due("together", x.look(4), together);
        due("round all", x.loop(0, 11, 0, 11), together);
        for (int p = 0; p < 144; p++) {
            x.hide(p, true);
        }
        due("none", x.look(3), 0);
        due("all hidden", x.look(2), 144);
        due("none to be laid", x.begin(), 0);
    }
}
