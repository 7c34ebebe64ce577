/** What each promise answers when something can't be, in several states; and that nothing is done then. */
public final class RefusedTest {
    private static final int MIN = Integer.MIN_VALUE;
    private static final int MAX = Integer.MAX_VALUE;
    private static final Checks checks = new Checks();

    private final TornFringes x;
    private final String state;
    private final int pixels;
    /** Numbers that no pixel, edge, ring, island, line or what has in any state. */
    private static final int[] NEVER = {-2, -3, -256, 288, 300, 512, 65536, 1 << 30, MAX - 1, MAX, MIN, MIN + 1,
        -1 << 16};

    private RefusedTest(String state, TornFringes x) {
        this.state = state;
        this.x = x;
        pixels = x.look(0) * x.look(1);
    }

    public static void main(String[] args) {
        new RefusedTest("new", new TornFringes()).all();
        new RefusedTest("least", Maps.sized(2, 2)).all();
        new RefusedTest("greatest", flooded(Maps.sized(12, 12))).all();
        new RefusedTest("islands", Maps.islands()).all();
        new RefusedTest("while flooding", whileFlooding()).all();
        new RefusedTest("all hidden", flooded(Maps.told("....;....;...."))).all();
        new RefusedTest("all torn", allTorn()).all();
        new RefusedTest("144 islands", flooded(Maps.allCut())).all();
        new RefusedTest("at the ends of the ints", atTheEnds()).all();
        new RefusedTest("gone back to an image", goneBack()).all();
        checks.end("RefusedTest");
    }

    private static TornFringes flooded(TornFringes x) {
        Maps.flood(x);
        return x;
    }

    private static TornFringes whileFlooding() {
        TornFringes x = Maps.pair();
        x.join(0);
        x.hide(15, true);
        x.cut(0, true);
        x.begin();
        x.step(5);
        return x;
    }

    /** Twelve acts, sixty lines, a full tape. */
    private static TornFringes allTorn() {
        TornFringes x = Maps.allTorn();
        x.join(1);
        Maps.flood(x);
        for (int i = 0; i < 70; i++) {
            x.lift(0, i % 2 == 0 ? 1 : -1);
        }
        for (int i = 0; i < 20; i++) {
            x.feed(i, i, i, i, i);
        }
        return x;
    }

    private static TornFringes atTheEnds() {
        TornFringes x = Maps.islands();
        x.lift(0, 8421504);
        x.lift(1, -8421504);
        return x;
    }

    private static TornFringes goneBack() {
        TornFringes x = Maps.pair();
        Maps.flood(x);
        x.image(true);
        x.size(12, 12);
        x.image(false);
        return x;
    }

    private static void due(String call, long got, long want) {
        checks.due(call, got, want);
    }

    private static void due(String call, boolean got, boolean want) {
        checks.due(call, got, want);
    }

    private void all() {
        refused("2 size", this::size);
        refused("3, 4, 5 phase, hide, grade", this::tellPixels);
        refused("6, 7, 8, 10 grades, ramp, noise, join", this::tellAll);
        refused("11 cut", this::cut);
        refused("13 step", this::step);
        refused("14 lift", this::lift);
        refused("16, 17 feed, end", this::tape);
        refused("20, 21, 36 pixel, height, way", this::askPixels);
        refused("22, 38 edge, apart", this::askEdges);
        refused("23, 24, 25, 26 charge, torn, far, joined", this::askRings);
        refused("27, 28, 30 island, fit, sum", this::askIslands);
        refused("29 loop", this::askLoops);
        refused("31 to 35 power, range, between, areas, peak", this::askHeights);
        refused("37 would", this::askThought);
        refused("40, 42 log, look", this::askMore);
        refused("what can be answered", this::askAny);
    }

    private void refused(String what, Runnable calls) {
        checks.about(state + ": " + what);
        Everything before = Everything.of(x);
        calls.run();
        checks.same("nothing is done", x, before);
    }

    private int[] noPixels() {
        int[] none = new int[NEVER.length + 3];
        System.arraycopy(NEVER, 0, none, 0, NEVER.length);
        none[NEVER.length] = -1;
        none[NEVER.length + 1] = pixels;
        none[NEVER.length + 2] = pixels + 1;
        return none;
    }

    private boolean isRing(int ring) {
        int c = x.look(1);
        return ring >= 0 && ring < pixels && ring % c < c - 1 && ring / c < x.look(0) - 1;
    }

    private boolean isEdge(int e) {
        int c = x.look(1);
        return e >= 0 && e < 2 * pixels && (e % 2 == 0 ? e / 2 % c < c - 1 : e / 2 + c < pixels);
    }

    private void size() {
        int[] wrong = {1, 0, -1, 13, 14, 260, MIN, MAX, MIN + 4};
        for (int side : wrong) {
            due("size " + side, x.size(side, 4), false);
            due("size " + side, x.size(4, side), false);
            due("size " + side, x.size(side, side), false);
        }
    }

    private void tellPixels() {
        for (int p : noPixels()) {
            for (int v : new int[] {0, 1, 99, 255, MIN, MAX}) {
                due("phase " + p, x.phase(p, v), -1000);
                due("grade " + p, x.grade(p, v), false);
            }
            due("hide " + p, x.hide(p, true), false);
            due("hide " + p, x.hide(p, false), false);
        }
        for (int p = 0; p < pixels; p++) {
            due("so already", x.hide(p, x.pixel(p, 2) == 1), false);
            for (int v : new int[] {-1, 100, 101, 256 + 50, MIN, MAX, MIN + 50}) {
                due("grade " + p + " " + v, x.grade(p, v), false);
            }
        }
    }

    private void tellAll() {
        for (int how : new int[] {-1, 3, 4, 256, MIN, MAX, MIN + 1}) {
            due("grades " + how, x.grades(how), -1);
        }
        for (int slope : new int[] {1000, -1000, 1001, -1001, MIN, MAX, 65536, MIN + 999}) {
            due("ramp " + slope, x.ramp(slope, 0), false);
            due("ramp " + slope, x.ramp(0, slope), false);
            due("ramp " + slope, x.ramp(slope, slope), false);
            due("ramp " + slope, x.ramp(999, slope), false);
            due("ramp " + slope, x.ramp(slope, -999), false);
        }
        for (int n : new int[] {0, -1, -60, 61, 256 + 1, MIN, MAX, MIN + 1}) {
            due("noise " + n, x.noise(n), false);
        }
        for (int manner : new int[] {-1, 2, 3, 256, MIN, MAX, MIN + 1}) {
            due("join " + manner, x.join(manner), -1);
        }
        if (x.torn(-1) > 12) {
            due("join 0", x.join(0), -1);
        }
    }

    private void cut() {
        for (int e = -3; e < 300; e++) {
            boolean is = isEdge(e) && x.edge(e, 3) == 1;
            due("so already " + e, x.cut(e, is), false);
            if (!isEdge(e)) {
                due("none such " + e, x.cut(e, !is), false);
            }
        }
        for (int e : NEVER) {
            due("none such " + e, x.cut(e, true), false);
            due("none such " + e, x.cut(e, false), false);
        }
    }

    private void step() {
        for (int n : new int[] {0, -1, 145, 146, 256 + 1, MIN, MAX, MIN + 1}) {
            due("step " + n, x.step(n), -1);
        }
        if (x.look(8) == 0) {
            for (int n : new int[] {1, 2, 143, 144}) {
                due("not flooding: step " + n, x.step(n), -1);
            }
        }
    }

    private void lift() {
        int islands = x.look(7);
        for (int turns : new int[] {0, 1, -1, MIN, MAX}) {
            for (int island : NEVER) {
                due("lift " + island, x.lift(island, turns), false);
            }
            for (int island : new int[] {-1, islands, islands + 1, 144}) {
                due("lift " + island, x.lift(island, turns), false);
            }
        }
        for (int island = 0; island < islands; island++) {
            for (int turns : new int[] {16843010, -16843010, MIN, MAX, MIN + 1, 1 << 25, 1 << 30}) {
                due("too far " + island, x.lift(island, turns), false);
            }
        }
    }

    private void tape() {
        int bytes = x.look(13);
        if (bytes > 380) {
            due("too many", x.feed(0x30303030, 0, MIN, MAX, -1), -1);
        }
        for (int n : new int[] {-1, -2, MIN, bytes + 1, bytes + 20, 401, MAX, MIN + bytes}) {
            due("end " + n, x.end(n), false);
        }
        due("as it is", x.end(bytes), true);
    }

    private void askPixels() {
        for (int p : noPixels()) {
            for (int what = -1; what <= 8; what++) {
                due("pixel " + p, x.pixel(p, what), -1000);
            }
            due("height " + p, x.height(p), -100000000);
            for (int i : new int[] {-1, 0, 1, MIN, MAX}) {
                due("way " + p, x.way(p, i), -1);
            }
        }
        for (int p = 0; p < pixels; p++) {
            for (int what : new int[] {-1, 8, 9, 256, MIN, MAX}) {
                due("pixel " + p + " " + what, x.pixel(p, what), -1000);
            }
            boolean laid = x.pixel(p, 3) == 1;
            int froms = x.pixel(p, 6);
            due("froms", froms >= 0, laid);
            due("way " + p, x.way(p, 0), laid ? p : -1);
            for (int i : new int[] {-1, froms + 1, froms + 2, 144, 256, MIN, MAX}) {
                due("way " + p + " " + i, x.way(p, i == 0 ? -1 : i), -1);
            }
            if (!laid) {
                due("height", x.height(p), -100000000);
                due("from", x.pixel(p, 4), -1);
                due("island", x.pixel(p, 5), -1);
                due("move", x.pixel(p, 7), 0);
            } else {
                due("the way ends", x.way(p, froms), x.island(x.pixel(p, 5), 0));
            }
        }
    }

    private void askEdges() {
        for (int e = -3; e < 300; e++) {
            for (int what : new int[] {-1, 7, 8, 256, MIN, MAX}) {
                due("edge " + e + " " + what, x.edge(e, what), -1000);
            }
            for (int what = 0; what < 7; what++) {
                due("edge " + e + " " + what, x.edge(e, what) == -1000, !isEdge(e));
            }
            due("apart " + e, x.apart(e) == -1, !isEdge(e));
        }
        for (int e : NEVER) {
            due("edge " + e, x.edge(e, 0), -1000);
            due("apart " + e, x.apart(e), -1);
        }
    }

    private void askRings() {
        for (int ring = -3; ring < 160; ring++) {
            if (!isRing(ring)) {
                due("charge " + ring, x.charge(ring), -1000);
                due("far " + ring, x.far(ring, -1), -1);
                due("far " + ring, x.far(ring, 0), -1);
                due("far to " + ring, x.far(0, ring == -1 ? -2 : ring), -1);
            }
        }
        int torn = x.torn(-1);
        int cuts = x.joined(-1, 0);
        for (int i : NEVER) {
            due("charge " + i, x.charge(i), -1000);
            due("far " + i, x.far(i, -1), -1);
            due("far to " + i, x.far(0, i), -1);
            due("torn " + i, x.torn(i), -1);
            due("joined " + i, x.joined(i, 0), -1000);
        }
        due("torn " + torn, x.torn(torn), -1);
        for (int what = -1; what <= 3; what++) {
            due("joined " + cuts, x.joined(cuts, what), -1000);
        }
        for (int what : new int[] {-1, 3, 4, 256, MIN, MAX}) {
            for (int i = 0; i < cuts; i++) {
                due("joined " + i + " " + what, x.joined(i, what), -1000);
            }
        }
    }

    private void askIslands() {
        int islands = x.look(7);
        int[] none = {-1, islands, islands + 1, 144};
        for (int what = -1; what <= 4; what++) {
            for (int island : none) {
                due("island " + island, x.island(island, what), -1);
                due("fit " + island, x.fit(island, 0, what), -1000000000);
                due("fit to " + island, x.fit(0, island, what), -1000000000);
            }
            for (int island : NEVER) {
                due("island " + island, x.island(island, what), -1);
                due("fit " + island, x.fit(island, 0, what), -1000000000);
                due("fit to " + island, x.fit(0, island, what), -1000000000);
            }
            due("fit of both none", x.fit(MIN, MAX, what), -1000000000);
            for (int island = 0; island < islands; island++) {
                due("fit with itself", x.fit(island, island, what), -1000000000);
            }
        }
        for (int island : none) {
            due("sum " + island, x.sum(island), -1000000000000L);
        }
        for (int island : NEVER) {
            due("sum " + island, x.sum(island), -1000000000000L);
        }
        for (int what : new int[] {-1, 4, 5, 256, MIN, MAX}) {
            due("another what", x.island(0, what), -1);
            due("another what", x.fit(0, 1, what == 4 ? 2 : what), -1000000000);
        }
    }

    private void askLoops() {
        int r = x.look(0);
        int c = x.look(1);
        int[][] none = {{-1, 1, 0, 1}, {0, r, 0, 1}, {0, 1, -1, 1}, {0, 1, 0, c}, {0, 0, 0, 1}, {0, 1, 0, 0},
            {1, 0, 0, 1}, {0, 1, 1, 0}, {r - 1, r, 0, 1}, {0, 1, c - 1, c}, {r - 1, r - 1, c - 1, c - 1},
            {MIN, 1, 0, 1}, {0, MAX, 0, 1}, {0, 1, MIN, 1}, {0, 1, 0, MAX}, {MIN, MIN, MIN, MIN},
            {MAX, MAX, MAX, MAX}, {MAX - 1, MAX, 0, 1}, {0, 1, MAX - 1, MAX}, {MIN, MAX, 0, 1}, {0, MIN, 0, MIN}};
        for (int[] at : none) {
            due("loop", x.loop(at[0], at[1], at[2], at[3]), -1000);
        }
    }

    private void askHeights() {
        boolean any = x.look(6) > 0;
        for (long times : new long[] {-1, -2, Long.MIN_VALUE, Integer.MIN_VALUE, Long.MIN_VALUE + 1}) {
            due("times " + times, x.power(0, times), -1);
            due("times " + times, x.power(MIN, times), -1);
        }
        for (int what : new int[] {-1, 4, 5, 256, MIN, MAX}) {
            due("range " + what, x.range(what), -100000000);
            due("areas " + what, x.areas(0, what == 4 ? 3 : what), -1000);
        }
        for (int what = 0; what <= 3; what++) {
            due("range " + what, x.range(what) == -100000000, !any);
        }
        for (int level : new int[] {MIN, MAX, 0, -1}) {
            due("no areas", x.areas(level, 0) == 0, x.areas(level, 2) == -1);
            due("of none", x.areas(level, 0) == 0, x.areas(level, 1) == 0);
        }
        due("all", x.between(MIN, MAX), x.look(6));
        due("turned", x.between(MAX, MIN), 0);
        due("turned", x.between(1, 0), 0);
        int peaks = x.peak(-1);
        due("no peak more", x.peak(peaks), -1);
        for (int i : NEVER) {
            due("peak " + i, x.peak(i), -1);
        }
    }

    private void askThought() {
        for (int wrong : new int[] {-1, 2, 3, 256, MIN, MAX}) {
            for (int what = -1; what <= 5; what++) {
                due("would " + wrong, x.would(wrong, what), -1);
            }
            due("would not " + wrong, x.would(1, wrong == 2 || wrong == 3 ? wrong + 3 : wrong), -1);
            due("would not " + wrong, x.would(0, wrong == 2 || wrong == 3 ? wrong + 3 : wrong), -1);
        }
        for (int what = 0; what < 5; what++) {
            due("would by least", x.would(0, what) == -1, x.torn(-1) > 12);
            due("would by nearest", x.would(1, what) >= 0, true);
        }
    }

    private void askMore() {
        int lines = Math.min(60, x.look(14));
        for (int what = -1; what <= 3; what++) {
            for (int i : NEVER) {
                due("log " + i, x.log(i, what), -100000000);
            }
            due("log -1", x.log(-1, what), -100000000);
            due("log " + lines, x.log(lines, what), -100000000);
            due("log 60", x.log(60, what), -100000000);
        }
        for (int i = 0; i < lines; i++) {
            for (int what : new int[] {-1, 3, 4, 256, MIN, MAX}) {
                due("log " + i + " " + what, x.log(i, what), -100000000);
            }
        }
        for (int what : new int[] {-1, 16, 17, 256, MIN, MAX, MIN + 1}) {
            due("look " + what, x.look(what), -100000000);
        }
        if (x.look(12) == 0) {
            due("undo", x.undo(), -1);
        }
    }

    /** Asking changes nothing, whatever is answered. */
    private void askAny() {
        int[] some = {MIN, -256, -1, 0, 1, 2, 3, 12, 127, 143, MAX};
        for (int a : some) {
            for (int b : some) {
                x.pixel(a, b);
                x.edge(a, b);
                x.far(a, b);
                x.joined(a, b);
                x.island(a, b);
                x.between(a, b);
                x.areas(a, b);
                x.way(a, b);
                x.would(a, b);
                x.log(a, b);
                x.power(a, b);
                x.power(b, (long) a * MAX);
                x.fit(a, b, 0);
                x.fit(a, b, 1);
                x.loop(a, b, 0, 1);
                x.loop(0, 1, a, b);
                x.loop(a, b, a, b);
            }
            x.height(a);
            x.charge(a);
            x.torn(a);
            x.sum(a);
            x.range(a);
            x.peak(a);
            x.apart(a);
            x.look(a);
            x.fault();
        }
    }
}
