/** For each promise: ordinary inputs, the edges that the document names, wrong inputs. */
public final class PromisesTest {
    private static final int MIN = Integer.MIN_VALUE;
    private static final int MAX = Integer.MAX_VALUE;
    private static final Checks checks = new Checks();

    private PromisesTest() {
    }

    public static void main(String[] args) {
        newObject();
        size();
        phase();
        hide();
        grade();
        gradesBySteps();
        gradesByTorn();
        ramp();
        noiseAndState();
        joinLeast();
        joinLeastOfSeveral();
        joinNearest();
        joinMany();
        joinToSides();
        joinStays();
        cut();
        begin();
        step();
        stepOrder();
        lift();
        liftAtTheEnds();
        settle();
        settleOrder();
        settleWouldNotFit();
        tape();
        text();
        fault();
        pixel();
        height();
        edge();
        jumpsAtTheEnds();
        tearsAtTheEnds();
        charge();
        torn();
        far();
        joined();
        island();
        fit();
        loop();
        sum();
        power();
        range();
        between();
        areas();
        peak();
        way();
        would();
        apart();
        undo();
        undoOfLaid();
        undoOfEachAct();
        log();
        image();
        look();
        checks.end("PromisesTest");
    }

    private static void due(String call, long got, long want) {
        checks.due(call, got, want);
    }

    private static void due(String call, boolean got, boolean want) {
        checks.due(call, got, want);
    }

    // ---- 1 to 9 ----

    private static void newObject() {
        checks.about("1");
        TornFringes x = new TornFringes();
        int[] looks = {4, 4, 0, 0, 0, 0, 0, 0, 0, 0, 0, 0, 0, 0, 0, 0};
        for (int what = 0; what < looks.length; what++) {
            due("look " + what, x.look(what), looks[what]);
        }
        for (int p = 0; p < 16; p++) {
            due("phase", x.pixel(p, 0), 0);
            due("grade", x.pixel(p, 1), 50);
            due("hidden", x.pixel(p, 2), 0);
            due("laid", x.pixel(p, 3), 0);
        }
        due("no pixel 16", x.pixel(16, 0), -1000);
        due("fault", x.fault(), -1);
        due("undo", x.undo(), -1);
        due("image", x.image(false), false);
        due("log", x.log(0, 0), -100000000);
    }

    private static void size() {
        checks.about("2");
        TornFringes x = Maps.pair();
        x.state(9);
        x.join(0);
        x.cut(3, true);
        x.hide(9, true);
        x.grade(3, 7);
        Maps.flood(x);
        int lines = x.look(14);
        x.feed(1, 2, 3, 4, 5);
        x.image(true);
        int[][] wrong = {{1, 2}, {2, 1}, {13, 2}, {2, 13}, {0, 0}, {-4, -4}, {MIN, 4}, {4, MAX}};
        for (int[] side : wrong) {
            due("size", x.size(side[0], side[1]), false);
        }
        due("laid as it was", x.look(6), 15);
        due("acts", x.look(12), 8);
        due("size", x.size(2, 12), true);
        due("acts", x.look(12), 9);
        int[] looks = {2, 12, 0, 0, 0, 0, 0, 0, 0, 0, 0, 9, 9, 20, lines, 0};
        for (int what = 0; what < looks.length; what++) {
            due("look " + what, x.look(what), looks[what]);
        }
        due("phase", x.pixel(1, 0), 0);
        due("grade", x.pixel(3, 1), 50);
        due("joined", x.joined(-1, 0), 0);
        due("by hand", x.edge(3, 3), 0);
        due("the same again is told, too", x.size(2, 12), true);
        due("acts", x.look(12), 10);
        due("greatest", x.size(12, 12), true);
        due("last pixel", x.pixel(143, 1), 50);
        due("image", x.image(false), true);
        due("rows", x.look(0), 4);
    }

    private static void phase() {
        checks.about("3");
        TornFringes x = Maps.sized(3, 5);
        int[][] wraps = {{0, 0}, {127, 127}, {128, -127}, {-127, -127}, {-128, 127}, {255, 0}, {-255, 0},
            {254, -1}, {-254, 1}, {382, 127}, {383, -127}, {MAX, 127}, {MIN, -128 + 255}};
        for (int[] wrap : wraps) {
            due("phase " + wrap[0], x.phase(14, wrap[0]), wrap[1]);
            due("phase is " + wrap[0], x.pixel(14, 0), wrap[1]);
        }
        due("acts", x.look(12), 12);
        for (int p : new int[] {-1, 15, MIN, MAX}) {
            due("phase of " + p, x.phase(p, 1), -1000);
        }
        Maps.flood(x);
        due("none such: laid stays", x.phase(15, 1), -1000);
        due("laid", x.look(6), 15);
        due("the same phase", x.phase(3, 0), 0);
        due("laid no more", x.look(6), 0);
        x.begin();
        x.phase(3, 4);
        due("flooding no more", x.look(8), 0);
        due("step", x.step(1), -1);
    }

    private static void hide() {
        checks.about("4");
        TornFringes x = Maps.pair();
        Maps.flood(x);
        due("not hidden already", x.hide(5, false), false);
        due("none such", x.hide(16, true), false);
        due("none such", x.hide(-1, true), false);
        due("none such", x.hide(MIN, false), false);
        due("laid stays", x.look(6), 16);
        due("hide", x.hide(5, true), true);
        due("laid no more", x.look(6), 0);
        due("phase stays", x.pixel(5, 0), 127);
        due("hidden", x.pixel(5, 2), 1);
        due("no torn ring", x.look(3), 0);
        due("hidden already", x.hide(5, true), false);
        due("to be laid", x.begin(), 15);
        due("show", x.hide(5, false), true);
        due("flooding no more", x.look(8), 0);
        due("torn again", x.look(3), 2);
        due("acts", x.look(12), 6);
    }

    private static void grade() {
        checks.about("5");
        TornFringes x = new TornFringes();
        Maps.flood(x);
        due("grade", x.grade(15, 0), true);
        due("is", x.pixel(15, 1), 0);
        due("grade", x.grade(15, 99), true);
        due("is", x.pixel(15, 1), 99);
        due("the same", x.grade(15, 99), true);
        due("acts", x.look(12), 3);
        due("too much", x.grade(15, 100), false);
        due("too little", x.grade(15, -1), false);
        due("none such", x.grade(16, 5), false);
        due("none such", x.grade(-1, 5), false);
        due("ends", x.grade(MAX, MIN), false);
        due("acts", x.look(12), 3);
        due("laid stays", x.look(6), 16);
    }

    private static void gradesBySteps() {
        checks.about("6");
        TornFringes x = Maps.of(2, 3, 0, 10, 30, 3, 100, 0);
        // Steps: 0-1 10, 1-2 20, 3-4 97, 4-5 -100, 0-3 3, 1-4 90, 2-5 -30.
        due("how 1", x.grades(1), 93 + 59 + 74 + 49 + 4 + 34);
        int[] due = {99 - 13 / 2, 99 - 120 / 3, 99 - 50 / 2, 99 - 100 / 2, 99 - 287 / 3, 99 - 130 / 2};
        for (int p = 0; p < 6; p++) {
            due("grade " + p, x.pixel(p, 1), due[p]);
        }
        due("acts", x.look(12), 6);
        x.hide(4, true);
        due("hidden one 0", x.grades(1), 93 + (99 - 30 / 2) + 74 + (99 - 3) + 0 + (99 - 30));
        x.hide(1, true);
        x.hide(5, true);
        due("without any 0", x.grades(1), 96 + 0 + 0 + 96);
        due("how 0, hidden ones, too", x.grades(0), 300);
        x.grade(0, 1);
        due("how 0", x.grades(0), 300);
        due("another how", x.grades(3), -1);
        due("another how", x.grades(-1), -1);
        due("another how", x.grades(MIN), -1);
        TornFringes y = Maps.of(2, 2, 0, 127, 0, 127);
        due("0 at least", y.grades(1), 4 * 36);
        y = Maps.of(2, 2, 0, 127, -127, 0);
        due("0 at least", y.grades(1), 0);
        y.cut(0, true);
        due("cut edges count", y.grades(1), 0);
    }

    private static void gradesByTorn() {
        checks.about("6, how 2");
        TornFringes x = Maps.pair();
        Maps.flood(x);
        // Torn 0 and 4: pixel 15 is 3 right of column 0 and 2 below row 1.
        int sum = 0;
        for (int p = 0; p < 16; p++) {
            int row = p / 4;
            sum += 9 * (p % 4 + (row < 2 ? 0 : row - 1));
        }
        due("how 2", x.grades(2), sum);
        due("grade", x.pixel(15, 1), 45);
        due("grade", x.pixel(0, 1), 0);
        due("laid stays", x.look(6), 16);
        x.hide(15, true);
        due("hidden one 0", x.grades(2), sum - 45);
        due("hidden", x.pixel(15, 1), 0);
        TornFringes y = new TornFringes();
        due("without any", y.grades(2), 16 * 99);
        TornFringes z = Maps.vortices(12, 12, 1);
        z.grades(2);
        due("99 at most", z.pixel(143, 1), 99);
        due("11 away", z.pixel(11, 1), 99);
        due("10 away", z.pixel(10, 1), 90);
    }

    private static void ramp() {
        checks.about("7");
        TornFringes x = Maps.of(2, 3, 5);
        Maps.flood(x);
        for (int wrong : new int[] {1000, -1000, MIN, MAX}) {
            due("ramp", x.ramp(wrong, 0), false);
            due("ramp", x.ramp(0, wrong), false);
        }
        due("laid stays", x.look(6), 6);
        due("ramp", x.ramp(999, -999), true);
        due("laid no more", x.look(6), 0);
        int[] due = {5, -999 + 1020, -1998 + 2040, 999 - 1020, 0, -999 + 1020};
        for (int p = 0; p < 6; p++) {
            due("phase " + p, x.pixel(p, 0), due[p]);
        }
        due("ramp", x.ramp(-999, 999), true);
        due("back", x.pixel(5, 0), 0);
        due("nothing more", x.ramp(0, 0), true);
        due("acts", x.look(12), 5);
        TornFringes big = Maps.sized(12, 12);
        due("ramp", big.ramp(999, 999), true);
        due("the last", big.pixel(143, 0), 999 * 22 % 255);
    }

    private static void noiseAndState() {
        checks.about("8, 9");
        TornFringes x = Maps.sized(5, 7);
        due("state", x.state(12345), 0);
        due("state", x.state(-7), 12345);
        due("state", x.state(MIN), -7);
        Maps.flood(x);
        for (int wrong : new int[] {0, -1, 61, MAX, MIN}) {
            due("noise", x.noise(wrong), false);
        }
        due("state", x.look(11), MIN);
        due("laid stays", x.look(6), 35);
        x.state(77);
        due("noise", x.noise(60), true);
        due("laid no more", x.look(6), 0);
        int state = 77;
        int[] phases = new int[35];
        for (int i = 0; i < 60; i++) {
            state = state * 1664525 + 1013904223;
            int p = (int) ((state & 0xffffffffL) >> 8) % 35;
            state = state * 1664525 + 1013904223;
            phases[p] += (int) ((state & 0xffffffffL) >> 8) % 65 - 32;
        }
        for (int p = 0; p < 35; p++) {
            due("phase " + p, x.pixel(p, 0), (phases[p] + 127 + 255) % 255 - 127);
        }
        due("state", x.look(11), state);
        due("noise", x.noise(1), true);
        due("undo", x.undo(), 2);
        due("STATE is not undone", x.state(0) != state, true);
    }

    // ---- 10, 11: cuts ----

    private static void joinLeast() {
        checks.about("10 least");
        TornFringes x = Maps.pair();
        Maps.flood(x);
        for (int wrong : new int[] {2, -1, MIN, MAX}) {
            due("join", x.join(wrong), -1);
        }
        due("laid stays", x.look(6), 16);
        due("join", x.join(0), 1);
        due("laid no more", x.look(6), 0);
        due("two joined", x.joined(-1, 0), 1);
        due("first", x.joined(0, 0), 0);
        due("other", x.joined(0, 1), 4);
        due("over 4-5", x.edge(8, 2), 1);
        due("edges", x.look(5), 1);
        due("line", x.log(0, 0), 0);
        due("torn", x.log(0, 1), 2);
        due("fars", x.log(0, 2), 1);
        TornFringes none = new TornFringes();
        due("none torn", none.join(0), 0);
        due("line", none.log(0, 0), 0);
        due("torn", none.log(0, 1), 0);
        due("act", none.look(12), 1);
    }

    private static void joinLeastOfSeveral() {
        checks.about("10 least, of several");
        // Rings 25 (row 2, column 3) and 33 (row 3, column 3) of 8 by 8, the other charge at
        // row 2, column 5: to the border 3, 3 and 2; between the two unlike ones 2.
        TornFringes x = Maps.vortices(8, 8, 1 + 2 * 8 + 3, -(1 + 2 * 8 + 5));
        due("join", x.join(0), 2);
        due("together", x.joined(0, 1), 2 * 8 + 5);
        due("along the row", x.edge(2 * 20 + 1, 2) + x.edge(2 * 21 + 1, 2), 2);
        // At row 0 both are 1 from the border: 2 in all, as far as from one to the other.
        TornFringes y = Maps.vortices(6, 6, 1 + 1, -(1 + 3));
        due("join", y.join(0), 2);
        due("the border ahead", y.joined(0, 1), -1);
        due("both", y.joined(1, 1), -1);
        due("one and one", y.joined(-1, 0), 2);
        due("nearest, too", y.join(1), 2);
        due("both", y.joined(-1, 0), 2);
        // Four in the midst, each 1 from two of the other charge: the least partner.
        TornFringes z = Maps.vortices(12, 12, 1 + 5 * 12 + 5, -(1 + 5 * 12 + 6), -(1 + 6 * 12 + 5), 1 + 6 * 12 + 6);
        due("join", z.join(0), 2);
        due("least partner", z.joined(0, 1), 5 * 12 + 6);
        due("the others", z.joined(1, 0), 6 * 12 + 5);
        due("the others", z.joined(1, 1), 6 * 12 + 6);
    }

    private static void joinNearest() {
        checks.about("10 nearest");
        TornFringes x = Maps.pair();
        due("join", x.join(1), 2);
        due("border", x.joined(0, 1), -1);
        due("border", x.joined(1, 1), -1);
        due("upwards", x.edge(0, 2), 1);
        due("leftwards", x.edge(9, 2), 1);
        // In row 4 of 10 by 12 columns 2 (+), 4 (-), 5 (+), 8 (-): 4 and 5 first (1), then
        // 2 to the left border (3), 8 to the right one (3), though both could be 6 together.
        TornFringes y = Maps.vortices(10, 12, 1 + 48 + 2, -(1 + 48 + 4), 1 + 48 + 5, -(1 + 48 + 8));
        due("join", y.join(1), 7);
        due("first", y.joined(0, 0), 50);
        due("border", y.joined(0, 1), -1);
        due("second", y.joined(1, 0), 52);
        due("with", y.joined(1, 1), 53);
        due("third", y.joined(2, 0), 56);
        due("border", y.joined(2, 1), -1);
        due("least", y.join(0), 5);
        due("two and two", y.joined(-1, 0), 2);
        due("2 with 4", y.joined(0, 1), 52);
        due("5 with 8", y.joined(1, 1), 56);
        due("far", y.joined(1, 2), 3);
    }

    private static void joinMany() {
        checks.about("10, many");
        TornFringes x = Maps.sized(12, 12);
        for (int p = 0; p < 144; p++) {
            x.phase(p, p * p * 37 + p * 91);
        }
        due("more than 12 torn", x.look(3) > 12, true);
        Maps.flood(x);
        int acts = x.look(12);
        int lines = x.look(14);
        due("least can't be", x.join(0), -1);
        due("would neither", x.would(0, 3), -1);
        due("nothing is done", x.look(6), 144);
        due("acts", x.look(12), acts);
        due("lines", x.look(14), lines);
        due("nearest can", x.join(1) > 0, true);
        due("line", x.log(0, 1), x.look(3));
        due("12 can be", byBorder(12).join(0), 12);
        TornFringes y = byBorder(13);
        due("13 can't", y.join(0), -1);
        due("13 can't", y.would(0, 0), -1);
        due("nearest", y.join(1), 12 + 6);
    }

    /** Torn rings by the left and the right border, 1 away from it, and a 13th in the midst. */
    private static TornFringes byBorder(int count) {
        int[] rings = new int[count];
        for (int i = 0; i < 6; i++) {
            rings[2 * i] = (i % 2 == 0 ? 1 : -1) * (1 + (2 * i) * 12);
            rings[2 * i + 1] = (i % 2 == 0 ? -1 : 1) * (1 + (2 * i) * 12 + 10);
        }
        if (count > 12) {
            rings[12] = 1 + 5 * 12 + 5;
        }
        return Maps.vortices(12, 12, rings);
    }

    private static void joinToSides() {
        checks.about("10, sides");
        // The midst of 4 by 4 is 2 from all four: up. Row 1, column 1: edges 1-2 and 5-6.
        TornFringes x = Maps.vortices(4, 4, 1 + 5);
        due("join", x.join(0), 2);
        due("up", x.edge(2 * 1, 2), 1);
        due("up", x.edge(2 * 5, 2), 1);
        due("edges", x.look(5), 2);
        // Row 3 of 6 by 8, column 3: 4 up, 2 down, 4 left, 4 right.
        TornFringes y = Maps.vortices(6, 8, 1 + 3 * 8 + 3);
        due("join", y.join(1), 2);
        due("down", y.edge(2 * (4 * 8 + 3), 2), 1);
        due("down", y.edge(2 * (5 * 8 + 3), 2), 1);
        due("edges", y.look(5), 2);
        // Row 3 of 8 by 5, column 1: 4 up, 4 down, 2 left, 3 right.
        TornFringes z = Maps.vortices(8, 5, 1 + 3 * 5 + 1);
        due("join", z.join(0), 2);
        due("left", z.edge(2 * (3 * 5) + 1, 2), 1);
        due("left", z.edge(2 * (3 * 5 + 1) + 1, 2), 1);
        due("edges", z.look(5), 2);
        // Row 3 of 8 by 5, column 2: right, 2 away.
        TornFringes w = Maps.vortices(8, 5, 1 + 3 * 5 + 2);
        due("join", w.join(0), 2);
        due("right", w.edge(2 * (3 * 5 + 3) + 1, 2), 1);
        due("right", w.edge(2 * (3 * 5 + 4) + 1, 2), 1);
        due("edges", w.look(5), 2);
        // Row 2 of 6 by 12, column 2: 3 up, 3 down, 3 left: up. Row 2, column 9 of 5 by 12: down.
        TornFringes v = Maps.vortices(6, 12, 1 + 2 * 12 + 2);
        due("join", v.join(0), 3);
        due("up", v.edge(2 * 2, 2), 1);
        // From row 4, column 6 along its row to column 3, then down to row 6.
        TornFringes u = Maps.vortices(12, 12, 1 + 4 * 12 + 6, -(1 + 6 * 12 + 4));
        due("join", u.join(0), 4);
        int[] over = {2 * (4 * 12 + 6) + 1, 2 * (4 * 12 + 5) + 1, 2 * (5 * 12 + 4), 2 * (6 * 12 + 4)};
        for (int e : over) {
            due("over " + e, u.edge(e, 2), 1);
        }
        due("edges", u.look(5), 4);
        // To the right, then down.
        TornFringes t = Maps.vortices(12, 12, 1 + 4 * 12 + 4, -(1 + 5 * 12 + 6));
        due("join", t.join(1), 3);
        int[] there = {2 * (4 * 12 + 5) + 1, 2 * (4 * 12 + 6) + 1, 2 * (5 * 12 + 6)};
        for (int e : there) {
            due("over " + e, t.edge(e, 2), 1);
        }
    }

    private static void joinStays() {
        checks.about("10, stays");
        TornFringes x = Maps.pair();
        x.join(0);
        x.ramp(3, 4);
        for (int p = 0; p < 16; p++) {
            x.phase(p, 0);
        }
        due("none torn", x.look(3), 0);
        due("joined stays", x.joined(0, 1), 4);
        due("fars", x.look(15), 1);
        due("cut", x.edge(8, 2), 1);
        due("done again", x.join(0), 0);
        due("none", x.joined(-1, 0), 0);
        due("cut no more", x.edge(8, 2), 0);
    }

    private static void cut() {
        checks.about("11");
        TornFringes x = Maps.pair();
        x.join(0);
        Maps.flood(x);
        due("not so already", x.cut(8, false), false);
        for (int none : new int[] {6, 25, 31, 32, -1, MIN, MAX}) {
            due("no edge " + none, x.cut(none, true), false);
        }
        due("laid stays", x.look(6), 16);
        due("cut", x.cut(8, true), true);
        due("laid no more", x.look(6), 0);
        due("by hand", x.edge(8, 3), 1);
        due("already", x.cut(8, true), false);
        due("edges, once", x.look(5), 1);
        due("last edge", x.cut(28, true), true);
        due("two", x.look(5), 2);
        x.begin();
        due("not any more", x.cut(8, false), true);
        due("not flooding", x.look(8), 0);
        due("still by joining", x.look(5), 2);
        due("acts", x.look(12), 8);
        x.join(0);
        due("by hand stays", x.edge(28, 3), 1);
    }

    // ---- 12 to 15: the flood ----

    private static void begin() {
        checks.about("12");
        TornFringes x = Maps.pair();
        due("begin", x.begin(), 16);
        due("flooding", x.look(8), 1);
        due("acts", x.look(12), 5 - 1);
        x.step(5);
        due("anew", x.begin(), 16);
        due("laid", x.look(6), 0);
        due("islands", x.look(7), 0);
        due("moves", x.step(144), 16);
        x.hide(3, true);
        due("less hidden", x.begin(), 15);
        TornFringes y = Maps.told("....;....");
        due("none", y.begin(), 0);
        due("not flooding", y.look(8), 0);
        due("step", y.step(1), -1);
        due("no line", y.look(14), 0);
    }

    private static void step() {
        checks.about("13");
        TornFringes x = new TornFringes();
        due("not flooding", x.step(1), -1);
        x.begin();
        for (int wrong : new int[] {0, -1, 145, MIN, MAX}) {
            due("step", x.step(wrong), -1);
        }
        due("one", x.step(1), 1);
        due("seven", x.step(7), 7);
        due("laid", x.look(6), 8);
        due("flooding", x.look(8), 1);
        due("fewer", x.step(144), 8);
        due("ended", x.look(8), 0);
        due("no more", x.step(1), -1);
        due("lines", x.look(14), 2);
        due("end line", x.log(0, 0), 2);
        due("islands", x.log(0, 1), 1);
        due("jumps", x.log(0, 2), 0);
        due("island line", x.log(1, 0), 1);
        due("island", x.log(1, 1), 0);
        due("pixel", x.log(1, 2), 0);
        TornFringes y = new TornFringes();
        y.begin();
        due("just all", y.step(16), 16);
        due("ended", y.look(8), 0);
        TornFringes z = Maps.pair();
        Maps.flood(z);
        due("jumps without cuts", z.log(0, 2) > 0, true);
        due("jumps", z.log(0, 2), z.look(9));
        due("not an act", z.look(12), 4);
    }

    private static void stepOrder() {
        checks.about("13, order");
        TornFringes x = Maps.of(3, 3, 1, 2, 3, 4, 5, 6, 7, 8, 9);
        x.grade(8, 90);
        x.grade(2, 90);
        x.grade(5, 20);
        x.grade(4, 60);
        x.begin();
        // 2 begins (the least of the greatest grade); then 1 (edge 50) ahead of 5 (edge 20).
        // After 1: 0 and 4, both edges 50: the least is 0. After 0: 3 is less than 4.
        // Then 4 (from 1, less than 3), then 6 and 7 (50): 6 is less.
        int[] order = {2, 1, 0, 3, 4, 6, 7, 8, 5};
        int[] from = {-1, 2, 1, 0, 1, 3, 4, 7, 2};
        for (int i = 0; i < order.length; i++) {
            due("one", x.step(1), 1);
            due("move " + i, x.pixel(order[i], 7), i + 1);
            due("from " + i, x.pixel(order[i], 4), from[i]);
        }
        // Grades told between moves count at once, those of what is laid, too.
        TornFringes y = new TornFringes();
        y.begin();
        y.step(1);
        y.grade(4, 60);
        y.grade(0, 55);
        y.step(1);
        due("4 ahead of 1", y.pixel(4, 7), 2);
        y.grade(4, 10);
        y.step(1);
        due("1 ahead of 5 and 8", y.pixel(1, 7), 3);
        // A new island begins at the greatest grade of what is left.
        TornFringes z = Maps.sized(2, 4);
        z.hide(2, true);
        z.hide(6, true);
        z.grade(7, 51);
        z.begin();
        z.step(3);
        due("not led to", z.look(7), 2);
        due("began", z.island(1, 0), 0);
        due("began first", z.island(0, 0), 7);
        due("to the end", z.step(144), 3);
        due("two", z.look(7), 2);
        due("line", z.log(1, 0), 1);
        due("line", z.log(1, 1), 1);
        due("line", z.log(1, 2), 0);
    }

    private static void lift() {
        checks.about("14");
        TornFringes x = Maps.islands();
        int lines = x.look(14);
        int acts = x.look(12);
        for (int none : new int[] {-1, 2, MIN, MAX}) {
            due("none such", x.lift(none, 1), false);
        }
        due("too high", x.lift(1, 9000000), false);
        due("lines", x.look(14), lines);
        due("acts", x.look(12), acts);
        due("lift", x.lift(1, -2), true);
        due("height", x.height(2), -55 - 510);
        due("height", x.height(7), 45 - 510);
        due("not the other", x.height(5), 100);
        due("lift", x.lift(1, 5), true);
        due("in all", x.island(1, 2), 3);
        due("line", x.log(0, 0), 3);
        due("line", x.log(0, 1), 1);
        due("line", x.log(0, 2), 5);
        due("by none", x.lift(0, 0), true);
        due("acts", x.look(12), acts + 3);
        due("laid stays", x.look(6), 8);
        TornFringes y = new TornFringes();
        due("no island yet", y.lift(0, 1), false);
        y.begin();
        y.step(1);
        due("while flooding", y.lift(0, 1), true);
        y.step(1);
        due("goes on from there", y.height(1), 255);
        due("still flooding", y.look(8), 1);
    }

    private static void liftAtTheEnds() {
        checks.about("14, ends");
        TornFringes x = Maps.of(2, 2, 127, 127, 127, 127);
        Maps.flood(x);
        due("to the greatest int", x.lift(0, 8421504), true);
        due("height", x.height(3), MAX);
        due("no more", x.lift(0, 1), false);
        due("down again", x.lift(0, -16843008), true);
        due("height", x.height(3), 127 - 8421504 * 255);
        due("once more", x.lift(0, -1), true);
        due("height", x.height(3), 127 - 8421505L * 255);
        due("no more", x.lift(0, -1), false);
        due("far up", x.lift(0, MAX), false);
        due("far down", x.lift(0, MIN), false);
        TornFringes y = Maps.of(2, 2, -127, -127, -127, -127);
        Maps.flood(y);
        due("down", y.lift(0, -8421504), true);
        due("height", y.height(0), -127 - 8421504 * 255);
        due("no more", y.lift(0, -1), false);
        due("all the way up", y.lift(0, 16843008), true);
        due("height", y.height(0), -127 + 8421504 * 255);
        due("turns", y.island(0, 2), 8421504);
    }

    private static void settle() {
        checks.about("15");
        TornFringes x = Maps.islands();
        int acts = x.look(12);
        due("settle", x.settle(), 1);
        due("lifted", x.height(2), 200);
        due("lifted", x.height(7), 300);
        due("not the first", x.height(0), 0);
        due("turns", x.island(1, 2), 1);
        due("still two islands", x.look(7), 2);
        due("acts", x.look(12), acts + 1);
        due("line", x.log(0, 0), 5);
        due("left", x.log(0, 1), 1);
        due("islands", x.log(0, 2), 2);
        due("again", x.settle(), 1);
        due("as it was", x.height(7), 300);
        TornFringes y = new TornFringes();
        due("without islands", y.settle(), 0);
        due("line", y.log(0, 0), 5);
        due("line", y.log(0, 1), 0);
        TornFringes z = Maps.sized(2, 3);
        z.hide(1, true);
        z.hide(4, true);
        Maps.flood(z);
        due("no fit", z.settle(), 2);
    }

    private static void settleOrder() {
        checks.about("15, order");
        // Three islands side by side, 3 by 6: steps of 100, heights of each begin at its phase.
        TornFringes x = Maps.sized(3, 6);
        x.ramp(0, 100);
        for (int row = 0; row < 3; row++) {
            x.cut(2 * (row * 6 + 1), true);
            x.cut(2 * (row * 6 + 3), true);
        }
        Maps.flood(x);
        due("islands", x.look(7), 3);
        due("lift", x.lift(2, 40), true);
        due("settle", x.settle(), 1);
        for (int p = 0; p < 18; p++) {
            due("height " + p, x.height(p), p % 6 * 100);
        }
        due("turns", x.island(2, 2), 2);
        mostEdgesFirst();
    }

    /** Round the torn ring 0 lie island 0 (pixel 0), 1 (1, 2, 4, 5) and 2 (3, 6, 7, 8): not all can fit. */
    private static void mostEdgesFirst() {
        TornFringes x = Maps.vortices(3, 3, 1);
        for (int e : new int[] {0, 1, 6, 9, 11}) {
            x.cut(e, true);
        }
        Maps.flood(x);
        due("islands", x.look(7), 3);
        due("0 and 1", x.fit(0, 1, 1), 1);
        due("0 and 2", x.fit(0, 2, 1), 1);
        due("1 and 2", x.fit(1, 2, 1), 3);
        due("lift", x.lift(1, 3), true);
        // First 1 and 2, by three edges; then 0 and 1 (of 0 and 1, 0 and 2 the least).
        due("settle", x.settle(), 1);
        due("1 and 2 fit", x.fit(1, 2, 0), 0);
        due("0 and 1 fit", x.fit(0, 1, 0), 0);
        due("0 and 2 don't", Math.abs(x.fit(0, 2, 0)), 1);
        due("0 stays", x.island(0, 2), 0);
        due("lift", x.lift(2, -8), true);
        due("lift", x.lift(0, 5), true);
        due("settle", x.settle(), 1);
        due("0 stays", x.island(0, 2), 5);
        due("1 and 2 fit", x.fit(1, 2, 0), 0);
        due("0 and 1 fit", x.fit(0, 1, 0), 0);
    }

    private static void settleWouldNotFit() {
        checks.about("15, can't be");
        TornFringes x = Maps.islands();
        due("up", x.lift(0, 8421504), true);
        // The other one would have to come to 200 and 300 above 2147483520.
        int acts = x.look(12);
        int lines = x.look(14);
        due("settle", x.settle(), -1);
        due("nothing", x.height(2), -55);
        due("nothing", x.height(0), 8421504 * 255);
        due("turns", x.island(1, 2), 0);
        due("acts", x.look(12), acts);
        due("lines", x.look(14), lines);
    }

    // ---- 16 to 19: the tape ----

    private static void tape() {
        checks.about("16, 17");
        TornFringes x = new TornFringes();
        for (int i = 1; i <= 20; i++) {
            due("feed", x.feed(i, i, i, i, i), 20 * i);
        }
        due("full", x.feed(1, 2, 3, 4, 5), -1);
        due("bytes", x.look(13), 400);
        due("end", x.end(401), false);
        due("end", x.end(-1), false);
        due("end", x.end(MIN), false);
        due("end", x.end(381), true);
        due("too many still", x.feed(1, 2, 3, 4, 5), -1);
        due("bytes", x.look(13), 381);
        due("end", x.end(380), true);
        due("just", x.feed(1, 2, 3, 4, 5), 400);
        due("the same", x.end(400), true);
        due("none", x.end(0), true);
        due("bytes", x.look(13), 0);
        due("end", x.end(1), false);
        due("not acts", x.look(12), 0);
    }

    private static void text() {
        checks.about("18");
        TornFringes x = Maps.pair();
        x.join(0);
        x.cut(3, true);
        x.grade(0, 3);
        x.state(8);
        Maps.tell(x, "00ff807f..01;0a10a0..fe81");
        due("text", x.text(), 12);
        int[] phases = {127, 127, 0, -1, 0, -127, -118, -112, 32, 0, 126, 1};
        for (int p = 0; p < 12; p++) {
            due("phase " + p, x.pixel(p, 0), phases[p]);
            due("hidden " + p, x.pixel(p, 2), p == 4 || p == 9 ? 1 : 0);
            due("grade " + p, x.pixel(p, 1), 50);
        }
        int[] looks = {2, 6, 2, 0, 0, 0, 0, 0, 0, 0, 0, 8, 8, 0, 1, 0};
        for (int what = 0; what < looks.length; what++) {
            if (what != 3 && what != 4) {
                due("look " + what, x.look(what), looks[what]);
            }
        }
        due("joined", x.joined(-1, 0), 0);
        due("fault", x.fault(), -1);
        due("none now", x.text(), -1);
        due("at the end", x.fault(), 0);
        due("the map stays", x.look(1), 6);
        due("acts", x.look(12), 8);
        due("12 by 12", Maps.told(Maps.rowsOf(12, 12)).look(12), 1);
        due("12 by 12", Maps.told(Maps.rowsOf(12, 12)).pixel(143, 0), 90 - 128);
        due("2 by 12", Maps.told(Maps.rowsOf(2, 12)).look(1), 12);
        due("12 by 2", Maps.told(Maps.rowsOf(12, 2)).look(0), 12);
    }

    private static void fault() {
        checks.about("19");
        TornFringes x = new TornFringes();
        due("ahead of any", x.fault(), -1);
        String[] wrong = {"", "0", "00", "0000", "0000;", "0000;0", "0000;00", "0000;000", "0000;0000;",
            "0000;000000", ".", "..", "..0", ".0", "0.", "00.0", "000", "0000;000.", "000;0000", "00;0000",
            ";0000", "0000;;", "0000;00;0000", "0000;000000;0000", "000000;0000;0000", "00g0;0000",
            "00A0;0000", "0000 0000", "0000;0/00", "0000;0:00", "0000;0`00", "0000;\0", "0000:0000",
            Maps.rowsOf(2, 13), "0000;" + "00".repeat(13), Maps.rowsOf(13, 2),
            Maps.rowsOf(12, 2) + ";", Maps.rowsOf(12, 2) + "0",
            Maps.rowsOf(12, 12) + ";", "0000;0000;000", "0000;0000;0000\u00ff", "..00;.;00", "00" + "00".repeat(12)};
        int[] at = {0, 1, 2, 4, 5, 6, 7, 8, 10,
            11, 1, 2, 3, 1, 1, 3, 3, 8, 3, 2,
            0, 5, 7, 11, 11, 2,
            2, 4, 6, 6, 6, 5, 4,
            24, 29, 59, 59, 60,
            299, 13, 14, 6, 24};
        for (int i = 0; i < wrong.length; i++) {
            Maps.tell(x, wrong[i]);
            due("text " + wrong[i], x.text(), -1);
            due("fault of " + wrong[i], x.fault(), at[i]);
            due("the tape is empty", x.look(13), 0);
        }
        due("no acts", x.look(12), 0);
        due("the map stays", x.look(0), 4);
        Maps.tell(x, "0000;0000");
        due("right", x.text(), 4);
        due("not wrong", x.fault(), -1);
        Maps.tell(x, "0");
        x.text();
        x.undo();
        x.size(3, 3);
        x.image(true);
        x.image(false);
        due("fault stays", x.fault(), 1);
    }

    // ---- 20 to 29 ----

    private static void pixel() {
        checks.about("20");
        TornFringes x = Maps.pair();
        x.join(0);
        x.grade(9, 51);
        x.begin();
        x.step(3);
        int[][] due = {{9, 0, 0}, {9, 1, 51}, {9, 2, 0}, {9, 3, 1}, {9, 4, -1}, {9, 5, 0}, {9, 6, 0}, {9, 7, 1},
            {5, 0, 127}, {5, 3, 1}, {5, 4, 9}, {5, 5, 0}, {5, 6, 1}, {5, 7, 2}, {1, 4, 5}, {1, 6, 2}, {1, 7, 3},
            {0, 3, 0}, {0, 4, -1}, {0, 5, -1}, {0, 6, -1}, {0, 7, 0}, {4, 0, -64}};
        for (int[] row : due) {
            due("pixel " + row[0] + " " + row[1], x.pixel(row[0], row[1]), row[2]);
        }
        int[][] none = {{-1, 0}, {16, 0}, {0, -1}, {0, 8}, {MIN, MAX}, {0, MIN}, {MAX, 3}};
        for (int[] row : none) {
            due("pixel", x.pixel(row[0], row[1]), -1000);
        }
        x.hide(2, true);
        due("hidden", x.pixel(2, 2), 1);
    }

    private static void height() {
        checks.about("21");
        TornFringes x = Maps.sized(2, 12);
        x.ramp(0, 100);
        due("not laid", x.height(0), -100000000);
        Maps.flood(x);
        for (int p = 0; p < 24; p++) {
            due("height " + p, x.height(p), p % 12 * 100);
        }
        for (int none : new int[] {-1, 24, MIN, MAX}) {
            due("height", x.height(none), -100000000);
        }
        x.hide(3, true);
        due("no more", x.height(3), -100000000);
    }

    private static void edge() {
        checks.about("22");
        TornFringes x = Maps.pair();
        Maps.flood(x);
        due("step 0-1", x.edge(0, 0), 64);
        due("step 0-4", x.edge(1, 0), -64);
        due("step 4-5, wrapped", x.edge(8, 0), -64);
        due("step 1-5", x.edge(3, 0), 63);
        due("step 5-9", x.edge(11, 0), -127);
        due("shut", x.edge(8, 1), 0);
        int[] none = {6, 14, 22, 30, 25, 27, 29, 31, 32, -1, -2, MIN, MAX};
        for (int e : none) {
            for (int what = 0; what < 7; what++) {
                due("no edge", x.edge(e, what), -1000);
            }
        }
        due("another what", x.edge(0, 7), -1000);
        due("another what", x.edge(0, -1), -1000);
        // Laid in order 0, 1, 2, ..: 4 from 0 is -64, 5 from 1 is 127: from 4 to 5 191, not -64.
        due("jump", x.edge(8, 4), 1);
        due("no tear", x.edge(8, 5), 0);
        due("no jump", x.edge(0, 4), 0);
        x.join(0);
        x.cut(8, true);
        x.cut(0, true);
        Maps.flood(x);
        due("over", x.edge(8, 2), 1);
        due("by hand", x.edge(8, 3), 1);
        due("not over", x.edge(0, 2), 0);
        due("by hand", x.edge(0, 3), 1);
        due("no jump", x.edge(8, 4), 0);
        due("tear", x.edge(8, 5), 1);
        x.grade(4, 20);
        x.grade(5, 30);
        x.grade(6, 10);
        due("grade", x.edge(8, 6), 20);
        due("grade", x.edge(10, 6), 10);
        x.hide(5, true);
        due("shut", x.edge(8, 1), 1);
        due("shut", x.edge(3, 1), 1);
        due("step all the same", x.edge(8, 0), -64);
        due("not shut", x.edge(1, 1), 0);
        // Of two islands no tear, though their heights do not fit.
        TornFringes y = Maps.islands();
        due("no tear between islands", y.edge(2, 5), 0);
        due("no jump over a cut", y.edge(2, 4), 0);
        // Two torn rings below one another, both cuts upwards over the same edges.
        TornFringes z = Maps.vortices(12, 12, 1 + 17, 1 + 29);
        z.join(1);
        int most = 0;
        for (int e = 0; e < 288; e++) {
            most = Math.max(most, z.edge(e, 2));
        }
        due("over one twice", most, 2);
    }

    /** Of maps whose pixel 0 alone is laid, and then lifted by so many turns. */
    private static TornFringes laidAndLifted(TornFringes x, int turns) {
        x.begin();
        x.step(1);
        due("begins at 0", x.pixel(0, 7), 1);
        due("lift", x.lift(0, turns), true);
        return x;
    }

    private static void jumpsAtTheEnds() {
        checks.about("22, jumps at the ends of the ints");
        // 0 stands at 2147483521: to 1 it is 127 more, 2147483648, which is no int.
        TornFringes x = laidAndLifted(Maps.of(2, 2, 1, -127, 1, 1), 8421504);
        due("the last but 126", x.height(0), MAX - 126);
        due("step", x.step(1), 1);
        due("step 0-1", x.edge(0, 0), 127);
        due("jump", x.edge(0, 4), 1);
        due("no tear", x.edge(0, 5), 0);
        due("jumps", x.look(9), 1);
        due("tears", x.look(10), 0);
        due("the rest", x.step(144), 2);
        due("no jump 0-2", x.edge(1, 4), 0);
        due("jumps", x.look(9), x.edge(0, 4) + x.edge(3, 4) + x.edge(4, 4));
        due("the flood ends", x.log(0, 0), 2);
        due("islands", x.log(0, 1), 1);
        due("its jumps", x.log(0, 2), x.look(9));
        due("none in thought", x.would(0, 1), 0);
        // The same at the least int: -2147483522 and -127.
        TornFringes y = laidAndLifted(Maps.of(2, 2, -2, 126, -2, -2), -8421504);
        y.step(1);
        due("step 0-1", y.edge(0, 0), -127);
        due("jump", y.edge(0, 4), 1);
        due("jumps", y.look(9), 1);
        // To the very last ints all fits.
        TornFringes up = laidAndLifted(Maps.of(2, 2, 0, 127, 0, 0), 8421504);
        up.step(144);
        due("the greatest int", up.height(1), MAX);
        due("no jumps", up.look(9), 0);
        due("none told", up.log(0, 2), 0);
        TornFringes down = laidAndLifted(Maps.of(2, 2, -1, 127, -1, -1), -8421504);
        down.step(144);
        due("the least int", down.height(1), MIN);
        due("no jumps", down.look(9), 0);
    }

    private static void tearsAtTheEnds() {
        checks.about("22, tears at the ends of the ints");
        // Laid 0, 2, 3, 1 by steps of 42, 42, 43; the cut edge from 0 to 1 is 127, all of them together.
        TornFringes x = Maps.of(2, 2, 1, -127, 43, 85);
        x.cut(0, true);
        laidAndLifted(x, 8421504);
        due("the rest", x.step(144), 3);
        due("by way of 2, 3", x.pixel(1, 6), 3);
        due("step 0-1", x.edge(0, 0), 127);
        due("tear", x.edge(0, 5), 1);
        due("no jump", x.edge(0, 4), 0);
        due("tears", x.look(10), 1);
        due("jump 1-3", x.edge(3, 4), 1);
        due("jumps", x.look(9), 1);
        due("told", x.log(0, 2), 1);
        due("none in thought", x.would(0, 2), 0);
        // Where all are ints, it is none.
        TornFringes y = Maps.of(2, 2, 0, 127, 42, 84);
        y.cut(0, true);
        laidAndLifted(y, 8421504);
        y.step(144);
        due("the greatest int", y.height(1), MAX);
        due("no tear", y.edge(0, 5), 0);
        due("no tears", y.look(10), 0);
        due("no jumps", y.look(9), 0);
    }

    private static void charge() {
        checks.about("23");
        TornFringes x = Maps.pair();
        due("charge", x.charge(0), 1);
        due("charge", x.charge(4), -1);
        for (int ring : new int[] {1, 2, 5, 6, 8, 9, 10}) {
            due("charge " + ring, x.charge(ring), 0);
        }
        for (int none : new int[] {3, 7, 11, 12, 13, 14, 15, 16, -1, MIN, MAX}) {
            due("no ring", x.charge(none), -1000);
        }
        // Each of its four pixels hidden.
        for (int p : new int[] {0, 1, 5, 4}) {
            x.hide(p, true);
            due("hidden", x.charge(0), 0);
            x.hide(p, false);
        }
        x.hide(2, true);
        due("charge", x.charge(0), 1);
    }

    private static void torn() {
        checks.about("24");
        TornFringes x = Maps.pair();
        due("how many", x.torn(-1), 2);
        due("first", x.torn(0), 0);
        due("second", x.torn(1), 4);
        for (int none : new int[] {2, -2, MIN, MAX}) {
            due("none", x.torn(none), -1);
        }
        due("none", new TornFringes().torn(-1), 0);
        due("none", new TornFringes().torn(0), -1);
    }

    private static void far() {
        checks.about("25");
        TornFringes x = Maps.sized(5, 7);
        due("far", x.far(0, 26), 3 + 5);
        due("far", x.far(26, 0), 3 + 5);
        due("far", x.far(5, 7), 1 + 5);
        due("itself", x.far(9, 9), 0);
        int[][] border = {{0, 1}, {8, 2}, {16, 2}, {17, 2}, {26, 1}, {19, 1}, {3, 1}, {23, 1}, {10, 2}};
        for (int[] row : border) {
            due("border of " + row[0], x.far(row[0], -1), row[1]);
        }
        int[][] none = {{6, -1}, {28, -1}, {-1, -1}, {-1, 0}, {0, 6}, {0, 28}, {0, -2}, {0, 35}, {MIN, MAX}, {0, MIN}};
        for (int[] row : none) {
            due("none", x.far(row[0], row[1]), -1);
        }
        TornFringes y = Maps.sized(12, 12);
        due("midst", y.far(5 * 12 + 5, -1), 6);
        due("most", y.far(0, 10 * 12 + 10), 20);
    }

    private static void joined() {
        checks.about("26");
        TornFringes x = Maps.pair();
        due("none yet", x.joined(-1, 0), 0);
        due("none yet", x.joined(0, 0), -1000);
        x.join(0);
        due("one", x.joined(-1, 2), 1);
        due("first", x.joined(0, 0), 0);
        due("other", x.joined(0, 1), 4);
        due("far", x.joined(0, 2), 1);
        int[][] none = {{1, 0}, {-2, 0}, {0, 3}, {0, -1}, {MIN, 0}, {MAX, 0}, {0, MAX}};
        for (int[] row : none) {
            due("none", x.joined(row[0], row[1]), -1000);
        }
        x.join(1);
        due("two", x.joined(-1, 0), 2);
        due("first", x.joined(0, 0), 0);
        due("border", x.joined(0, 1), -1);
        due("second", x.joined(1, 0), 4);
        due("far", x.joined(1, 2), 1);
    }

    private static void island() {
        checks.about("27");
        TornFringes x = Maps.islands();
        int[][] due = {{0, 0, 0}, {0, 1, 4}, {0, 2, 0}, {0, 3, 2}, {1, 0, 2}, {1, 1, 4}, {1, 2, 0}, {1, 3, 2}};
        for (int[] row : due) {
            due("island " + row[0] + " " + row[1], x.island(row[0], row[1]), row[2]);
        }
        int[][] none = {{2, 0}, {-1, 0}, {0, 4}, {0, -1}, {MIN, 1}, {MAX, 1}, {1, MAX}};
        for (int[] row : none) {
            due("none", x.island(row[0], row[1]), -1);
        }
        x.lift(1, -1);
        due("turns may be NONE", x.island(1, 2), -1);
        x.begin();
        due("none", x.island(0, 0), -1);
        x.step(5);
        due("one laid of the other", x.island(1, 1), 1);
        due("the edges to what is laid alone", x.island(0, 3), 1);
        due("the edges to what is laid alone", x.island(1, 3), 1);
        x.hide(3, true);
        x.hide(5, true);
        Maps.flood(x);
        due("shut edges do not count", x.island(0, 3), 1);
    }

    private static void fit() {
        checks.about("28");
        TornFringes x = Maps.islands();
        due("turns", x.fit(0, 1, 0), 1);
        due("edges", x.fit(0, 1, 1), 2);
        due("turns", x.fit(1, 0, 0), -1);
        due("edges", x.fit(1, 0, 1), 2);
        int[][] none = {{0, 0, 0}, {1, 1, 0}, {0, 2, 0}, {2, 0, 0}, {-1, 0, 0}, {0, -1, 0}, {0, 1, 2}, {0, 1, -1},
            {MIN, MAX, 0}, {0, 1, MAX}};
        for (int[] row : none) {
            due("none", x.fit(row[0], row[1], row[2]), -1000000000);
        }
        x.lift(0, 8000000);
        due("far apart", x.fit(0, 1, 0), -1 * -8000001);
        x.lift(1, -8000000);
        due("farther", x.fit(0, 1, 0), 16000001);
        due("farther", x.fit(1, 0, 0), -16000001);
        // Heights 0, 127, -127 in three islands.
        TornFringes y = Maps.of(2, 2, 0, 127, 0, -127);
        y.cut(0, true);
        y.cut(4, true);
        y.cut(3, true);
        Maps.flood(y);
        due("three islands", y.look(7), 3);
        due("turns", y.fit(0, 1, 0), 0);
        due("turns", y.fit(0, 2, 0), 0);
        due("turns", y.fit(1, 2, 0), 1);
        due("by one edge", y.fit(1, 2, 1), 1);
        tieOfTurns();
        threeTurns();
        positiveFirst();
    }

    /** Two columns cut apart, the left one climbing a turn down the rows, the right one level. */
    private static void tieOfTurns() {
        TornFringes x = Maps.of(6, 2, 0, 0, 100, 0, -55, 0, -45, 0, 55, 0, 0, 0);
        for (int row = 0; row < 6; row++) {
            x.cut(4 * row, true);
        }
        Maps.flood(x);
        // The left column's heights: 0, 100, 200, 210, 310, 255; the right one's 0.
        due("islands", x.look(7), 2);
        due("left", x.height(4), 200);
        due("left", x.height(10), 255);
        // Over the rows k is 0, 0, 1, 1, 1, 1.
        due("most edges", x.fit(0, 1, 0), 1);
        due("most edges", x.fit(0, 1, 1), 4);
        x.hide(7, true);
        x.hide(9, true);
        x.cut(10, true);
        x.cut(10, false);
        Maps.flood(x);
        due("the right one falls apart", x.look(7), 3);
        due("two of each", x.fit(0, 1, 1), 2);
        due("nearest 0", x.fit(0, 1, 0), 0);
        due("lift", x.lift(1, 1), true);
        // Island 1 is rows 0 to 2 of the right column: now -1, -1, 0.
        due("shifted", x.fit(0, 1, 0), -1);
    }

    private static void threeTurns() {
        TornFringes y = Maps.sized(6, 2);
        for (int row = 0; row < 6; row++) {
            y.phase(2 * row, row * 102);
            y.cut(4 * row, true);
        }
        Maps.flood(y);
        due("left", y.height(10), 510);
        due("lift", y.lift(1, 1), true);
        for (int p : new int[] {3, 5, 7, 9}) {
            due("right " + p, y.height(p), 255);
        }
        // k over the rows: -1, -1, 0, 0, 1, 1 (0-255: -1; 102: -1; 204: 0; 306: 0; 408: 1; 510: 1).
        due("of three the nearest 0", y.fit(0, 1, 0), 0);
        due("each by two", y.fit(0, 1, 1), 2);
    }

    /** Just two edges between the islands, which lack 1 and -1. */
    private static void positiveFirst() {
        TornFringes x = Maps.sized(6, 3);
        for (int row = 0; row < 6; row++) {
            x.phase(3 * row, row * 102);
            x.cut(6 * row, true);
            if (row > 0 && row < 5) {
                x.hide(3 * row + 1, true);
            }
        }
        Maps.flood(x);
        due("two islands", x.look(7), 2);
        due("lift", x.lift(1, 1), true);
        due("left", x.height(15), 510);
        due("right", x.height(1), 255);
        due("the positive one", x.fit(0, 1, 0), 1);
        due("by one", x.fit(0, 1, 1), 1);
        due("the positive one", x.fit(1, 0, 0), 1);
        due("settle", x.settle(), 1);
        due("lifted by it", x.height(1), 510);
    }

    private static void loop() {
        checks.about("29");
        TornFringes x = Maps.pair();
        due("round ring 0", x.loop(0, 1, 0, 1), 1);
        due("round ring 4", x.loop(1, 2, 0, 1), -1);
        due("round both", x.loop(0, 2, 0, 1), 0);
        due("round all", x.loop(0, 3, 0, 3), 0);
        due("elsewhere", x.loop(2, 3, 2, 3), 0);
        int[][] none = {{1, 1, 0, 1}, {0, 1, 1, 1}, {1, 0, 0, 1}, {0, 1, 1, 0}, {-1, 1, 0, 1}, {0, 4, 0, 1},
            {0, 1, -1, 1}, {0, 1, 0, 4}, {MIN, MAX, 0, 1}, {0, 1, MIN, MAX}, {MAX, MIN, 0, 1}};
        for (int[] row : none) {
            due("loop", x.loop(row[0], row[1], row[2], row[3]), -1000);
        }
        x.hide(6, true);
        due("hidden within", x.loop(0, 2, 1, 3), 0);
        due("hidden on it", x.loop(1, 2, 1, 2), -1000);
        due("hidden on it", x.loop(0, 1, 2, 3), -1000);
        due("hidden on it", x.loop(0, 2, 0, 2), -1000);
        due("hidden outside", x.loop(0, 1, 0, 1), 1);
        TornFringes y = Maps.vortices(12, 12, 1 + 30, 1 + 60, 1 + 90, -(1 + 20));
        due("four", y.loop(0, 11, 0, 11), 2);
        // Without the last column, with ring 20 (row 1, column 8) outside.
        due("three", y.loop(2, 11, 0, 11), 3);
    }

    // ---- 30 to 36 ----

    private static void sum() {
        checks.about("30");
        TornFringes x = Maps.islands();
        due("sum", x.sum(0), 200);
        due("sum", x.sum(1), -20);
        for (int none : new int[] {-1, 2, MIN, MAX}) {
            due("none", x.sum(none), -1000000000000L);
        }
        x.lift(1, 8421000);
        due("beyond an int", x.sum(1), -20 + 4 * 8421000L * 255);
        x.begin();
        due("none", x.sum(0), -1000000000000L);
    }

    private static void power() {
        checks.about("31");
        TornFringes x = Maps.islands();
        // Heights 0, 100, -55, 45, twice.
        due("power", x.power(0, 1), 2 * (10000 + 3025 + 2025));
        due("power", x.power(5, 3), 6 * (25 + 9025 + 3600 + 1600));
        due("times 0", x.power(5, 0), 0);
        due("below 0", x.power(5, -1), -1);
        due("below 0", x.power(5, Long.MIN_VALUE), -1);
        long square = 2L * (10000 + 3025 + 2025);
        due("just", x.power(0, Long.MAX_VALUE / square), Long.MAX_VALUE / square * square);
        due("beyond", x.power(0, Long.MAX_VALUE / square + 1), -1);
        due("far level", x.power(MAX, 0), -1);
        due("far level", x.power(MIN, 0), -1);
        TornFringes y = Maps.of(2, 2);
        y.hide(1, true);
        y.hide(2, true);
        y.hide(3, true);
        Maps.flood(y);
        due("one alone", y.power(MAX, 1), (long) MAX * MAX);
        due("one alone", y.power(MIN, 1), (long) MIN * MIN);
        due("one alone, twice", y.power(MIN, 2), -1);
        due("none", y.power(0, Long.MAX_VALUE), 0);
        y.lift(0, 8421504);
        due("one beyond, alone", y.power(MIN, 0), -1);
        due("one beyond, alone", y.power(-889516852 - 127 - 1, 1), -1);
        due("just not beyond", y.power((int) (2147483520L - 3037000499L), 1), 3037000499L * 3037000499L);
        due("just beyond", y.power((int) (2147483520L - 3037000500L), 1), -1);
        TornFringes z = new TornFringes();
        due("none laid", z.power(MIN, Long.MAX_VALUE), 0);
        due("none laid", z.power(5, -1), -1);
        Maps.flood(z);
        due("all together beyond", z.power(MIN, 0), -1);
        due("all together beyond", z.power(MAX, 0), -1);
        greatestPower();
    }

    /** Four squares that are 9223372036854775807 together. */
    private static void greatestPower() {
        int level = -1600000000;
        long[] roots = {3037000499L, 76994, 23, 671};
        TornFringes x = Maps.sized(2, 2);
        for (int p = 0; p < 4; p++) {
            x.phase(p, (int) (roots[p] + level));
        }
        for (int e : new int[] {0, 1, 3, 4}) {
            x.cut(e, true);
        }
        Maps.flood(x);
        for (int p = 0; p < 4; p++) {
            long lacking = roots[p] + level - x.height(p);
            due("lift", x.lift(p, (int) (lacking / 255)), true);
            due("height", x.height(p), roots[p] + level);
        }
        due("the greatest", x.power(level, 1), Long.MAX_VALUE);
        due("nothing of it", x.power(level, 0), 0);
        due("twice", x.power(level, 2), -1);
        x.lift(1, 1);
        due("beyond", x.power(level, 0), -1);
    }

    private static void range() {
        checks.about("32");
        TornFringes x = Maps.islands();
        due("least", x.range(0), -55);
        due("greatest", x.range(1), 100);
        due("first least", x.range(2), 2);
        due("first greatest", x.range(3), 1);
        for (int none : new int[] {4, -1, MIN, MAX}) {
            due("another", x.range(none), -100000000);
        }
        x.begin();
        due("none laid", x.range(0), -100000000);
        due("none laid", x.range(3), -100000000);
        TornFringes y = Maps.of(2, 2, 5, 3, 5, 3);
        Maps.flood(y);
        due("first least", y.range(2), 1);
        due("first greatest", y.range(3), 0);
    }

    private static void between() {
        checks.about("33");
        TornFringes x = Maps.islands();
        due("all", x.between(MIN, MAX), 8);
        due("from on", x.between(45, 100), 4);
        due("up to", x.between(-55, -55), 2);
        due("less", x.between(-54, 44), 2);
        due("turned", x.between(100, -55), 0);
        x.begin();
        due("none laid", x.between(MIN, MAX), 0);
    }

    private static void areas() {
        checks.about("34");
        TornFringes x = Maps.of(3, 4, 9, 0, 9, 9, 0, 0, 0, 9, 9, 9, 0, 0);
        Maps.flood(x);
        due("areas", x.areas(9, 0), 3);
        due("greatest", x.areas(9, 1), 3);
        due("least pixel", x.areas(9, 2), 2);
        due("all", x.areas(0, 0), 1);
        due("all", x.areas(MIN, 1), 12);
        due("none", x.areas(10, 0), 0);
        due("none", x.areas(10, 1), 0);
        due("none", x.areas(10, 2), -1);
        for (int what : new int[] {3, -1, MIN, MAX}) {
            due("another", x.areas(9, what), -1000);
        }
        x.phase(3, 0);
        Maps.flood(x);
        due("as great: the least", x.areas(9, 2), 8);
        x.phase(9, 0);
        Maps.flood(x);
        due("ones", x.areas(9, 1), 1);
        due("as great: the least", x.areas(9, 2), 0);
        due("four", x.areas(9, 0), 4);
        TornFringes y = Maps.islands();
        y.settle();
        due("over cuts", y.areas(100, 1), 6);
        y.begin();
        due("none laid", y.areas(MIN, 0), 0);
        due("none laid", y.areas(MIN, 2), -1);
        // Hidden ones part areas.
        TornFringes z = Maps.sized(2, 3);
        z.hide(1, true);
        z.hide(4, true);
        Maps.flood(z);
        due("parted", z.areas(0, 0), 2);
    }

    private static void peak() {
        checks.about("35");
        TornFringes x = Maps.of(3, 4, 9, 0, 8, 9, 0, 0, 0, 9, 3, 0, 0, 0);
        Maps.flood(x);
        due("how many", x.peak(-1), 2);
        due("first", x.peak(0), 0);
        due("second", x.peak(1), 8);
        for (int none : new int[] {2, -2, MIN, MAX}) {
            due("none", x.peak(none), -1);
        }
        x.begin();
        due("none laid", x.peak(-1), 0);
        due("none laid", x.peak(0), -1);
        x.step(1);
        due("alone so far", x.peak(0), 0);
        // Over a cut a higher one counts, over a shut edge not.
        TornFringes y = Maps.islands();
        due("100 beside -55", y.peak(-1), 0);
        y.phase(1, 101);
        Maps.flood(y);
        due("one", y.peak(-1), 1);
        due("it", y.peak(0), 1);
        TornFringes z = Maps.of(2, 2, 5, 9);
        z.hide(1, true);
        Maps.flood(z);
        due("hidden ones do not count", z.peak(0), 0);
    }

    private static void way() {
        checks.about("36");
        TornFringes x = Maps.pair();
        x.join(0);
        due("not laid", x.way(9, 0), -1);
        Maps.flood(x);
        int[] way = {9, 5, 1, 0};
        for (int i = 0; i < 4; i++) {
            due("way " + i, x.way(9, i), way[i]);
        }
        int[][] none = {{9, 4}, {9, -1}, {-1, 0}, {16, 0}, {0, 1}, {MIN, MAX}, {9, MAX}, {9, MIN}};
        for (int[] row : none) {
            due("none", x.way(row[0], row[1]), -1);
        }
    }

    // ---- 37, 38 ----

    private static void would() {
        checks.about("37");
        TornFringes x = Maps.pair();
        x.join(0);
        Maps.flood(x);
        int lines = x.look(14);
        int[] nearest = {1, 0, 2, 2, 14};
        int[] least = {1, 0, 1, 1, 0};
        for (int what = 0; what < 5; what++) {
            due("nearest " + what, x.would(1, what), nearest[what]);
            due("least " + what, x.would(0, what), least[what]);
        }
        int[][] none = {{2, 0}, {-1, 0}, {0, 5}, {0, -1}, {MIN, 0}, {0, MAX}};
        for (int[] row : none) {
            due("none", x.would(row[0], row[1]), -1);
        }
        due("joining stays", x.joined(-1, 0), 1);
        due("cuts stay", x.look(5), 1);
        due("lines stay", x.look(14), lines);
        due("heights stay", x.height(5), 127);
        due("acts stay", x.look(12), 5);
        // Those that are laid now, alone; by hand as it is.
        x.begin();
        due("none laid", x.would(1, 4), 0);
        x.step(2);
        due("flooding stays", x.look(8), 1);
        due("laid stays", x.look(6), 2);
        for (int p = 0; p < 4; p++) {
            x.cut(2 * (4 * p + 1), true);
        }
        due("by hand", x.would(0, 0), 2);
        // Lifted heights are others.
        Maps.flood(x);
        x.lift(0, 1);
        due("lifted", x.would(0, 4), x.island(0, 1));
    }

    private static void apart() {
        checks.about("38");
        TornFringes x = Maps.sized(2, 4);
        x.cut(2, true);
        due("together", x.apart(0), 1);
        due("apart", x.apart(10), 2);
        due("already by hand", x.apart(2), 1);
        for (int none : new int[] {6, 9, 14, 16, -1, MIN, MAX}) {
            due("none", x.apart(none), -1);
        }
        due("nothing stays", x.edge(10, 3), 0);
        due("nothing is laid", x.look(6), 0);
        due("no line", x.look(14), 0);
        x.hide(0, true);
        due("alone by hidden ones", x.apart(9 + 1), 2);
        due("row below", x.apart(8), 2);
        // Cuts of joining count.
        TornFringes y = Maps.vortices(2, 4, 1 + 1);
        y.join(0);
        due("over 1-2", y.edge(2, 2), 1);
        due("apart", y.apart(10), 2);
        due("all hidden", Maps.told("....;....").apart(0), 0);
    }

    // ---- 39 to 42 ----

    private static void undo() {
        checks.about("39");
        TornFringes x = new TornFringes();
        due("none", x.undo(), -1);
        due("no line", x.look(14), 0);
        for (int i = 1; i <= 15; i++) {
            x.phase(0, i);
        }
        due("the latest 12", x.look(12), 12);
        for (int i = 11; i >= 0; i--) {
            due("undo", x.undo(), i);
            due("phase", x.pixel(0, 0), i + 3);
            due("line", x.log(0, 0), 4);
            due("left", x.log(0, 1), i);
            due("0", x.log(0, 2), 0);
        }
        due("none", x.undo(), -1);
        // What is laid comes back, and flooding, too; what came after the act goes.
        x.begin();
        x.step(5);
        x.phase(7, 9);
        x.begin();
        x.step(9);
        due("undo", x.undo(), 0);
        due("laid", x.look(6), 5);
        due("flooding", x.look(8), 1);
        due("goes on", x.step(144), 11);
        x.grade(3, 4);
        x.begin();
        due("undo", x.undo(), 0);
        due("laid", x.look(6), 16);
        due("not flooding", x.look(8), 0);
    }

    private static void undoOfLaid() {
        checks.about("39, what is laid");
        TornFringes x = Maps.sized(3, 4);
        x.ramp(30, 50);
        x.cut(4, true);
        x.cut(12, true);
        x.cut(20, true);
        x.grade(11, 70);
        Maps.flood(x);
        x.lift(1, 3);
        int[][] was = laidOf(x);
        x.grade(0, 99);
        x.grade(6, 99);
        x.cut(9, true);
        Maps.flood(x);
        x.lift(0, 7);
        x.undo();
        x.undo();
        x.undo();
        x.undo();
        due("begun elsewhere", x.island(0, 0), 11);
        int[][] is = laidOf(x);
        for (int i = 0; i < was.length; i++) {
            for (int k = 0; k < was[i].length; k++) {
                due("laid " + i + " " + k, is[i][k], was[i][k]);
            }
        }
    }

    private static int[][] laidOf(TornFringes x) {
        int[][] all = new int[13][];
        for (int p = 0; p < 12; p++) {
            all[p] = new int[] {x.pixel(p, 3), x.pixel(p, 4), x.pixel(p, 5), x.pixel(p, 6), x.pixel(p, 7), x.height(p)};
        }
        all[12] = new int[] {x.island(0, 0), x.island(1, 0), x.island(0, 2), x.island(1, 2), x.look(6), x.look(7)};
        return all;
    }

    private static void undoOfEachAct() {
        checks.about("39, each act");
        TornFringes x = Maps.pair();
        x.join(0);
        x.begin();
        x.step(16);
        x.hide(15, true);
        x.grade(2, 3);
        x.grades(2);
        x.ramp(1, 2);
        x.noise(3);
        x.cut(5, true);
        Maps.flood(x);
        x.lift(0, 2);
        x.settle();
        due("acts", x.look(12), 12);
        Maps.tell(x, "0000;0000;0000");
        x.text();
        x.size(5, 5);
        due("acts", x.look(12), 12);
        int state = x.look(11);
        due("size", x.undo(), 11);
        due("rows", x.look(0), 3);
        due("text", x.undo(), 10);
        due("rows", x.look(0), 4);
        due("the tape stays empty", x.look(13), 0);
        due("settle", x.undo(), 9);
        due("lift", x.island(0, 2), 2);
        due("lift", x.undo(), 8);
        due("turns", x.island(0, 2), 0);
        due("cut", x.undo(), 7);
        due("cut", x.edge(5, 3), 0);
        due("noise", x.undo(), 6);
        due("phase", x.pixel(15, 0), 9);
        due("STATE stays", x.look(11), state);
        due("ramp", x.undo(), 5);
        due("phase", x.pixel(15, 0), 0);
        due("grades", x.pixel(14, 1), 36);
        due("grades", x.undo(), 4);
        due("grade", x.pixel(14, 1), 50);
        due("grade", x.pixel(2, 1), 3);
        due("grade", x.undo(), 3);
        due("grade", x.pixel(2, 1), 50);
        due("hide", x.undo(), 2);
        due("hidden", x.pixel(15, 2), 0);
        due("laid", x.look(6), 16);
        due("join", x.undo(), 1);
        due("joined", x.joined(-1, 0), 0);
        due("cuts", x.look(5), 0);
        due("fars", x.look(15), 0);
        due("phase", x.undo(), 0);
        due("phase", x.pixel(5, 0), 0);
    }

    private static void log() {
        checks.about("40");
        TornFringes x = new TornFringes();
        due("none", x.log(0, 0), -100000000);
        x.begin();
        x.step(1);
        for (int i = 1; i <= 70; i++) {
            x.lift(0, i);
        }
        due("all that came", x.look(14), 71);
        for (int i = 0; i < 60; i++) {
            due("what", x.log(i, 0), 3);
            due("island", x.log(i, 1), 0);
            due("turns", x.log(i, 2), 70 - i);
        }
        int[][] none = {{60, 0}, {-1, 0}, {0, 3}, {0, -1}, {MIN, 0}, {MAX, 0}, {0, MAX}, {70, 0}};
        for (int[] row : none) {
            due("none", x.log(row[0], row[1]), -100000000);
        }
        TornFringes y = new TornFringes();
        y.join(1);
        due("one", y.log(0, 0), 0);
        due("no more", y.log(1, 0), -100000000);
    }

    private static void image() {
        checks.about("41");
        TornFringes x = Maps.islands();
        due("none", x.image(false), false);
        x.state(5);
        x.lift(1, 2);
        int lines = x.look(14);
        due("take", x.image(true), true);
        due("acts stay", x.look(12), 5);
        x.state(6);
        x.settle();
        x.size(3, 3);
        x.feed(0, 0, 0, 0, 0);
        x.text();
        x.feed(0, 0, 0, 0, 0);
        due("back", x.image(false), true);
        int[] looks = {2, 4, 0, 0, 0, 2, 8, 2, 0, 0, 0, 5, 0, 20, lines, 0};
        for (int what = 0; what < looks.length; what++) {
            due("look " + what, x.look(what), looks[what]);
        }
        due("fault stays", x.fault(), 0);
        due("no acts", x.undo(), -1);
        due("height", x.height(2), -55 + 510);
        due("turns", x.island(1, 2), 2);
        due("line", x.log(0, 0), 3);
        x.phase(0, 9);
        due("undo", x.undo(), 0);
        due("height", x.height(2), -55 + 510);
        x.noise(5);
        due("once more", x.image(false), true);
        due("height", x.height(2), -55 + 510);
        due("STATE", x.look(11), 5);
        x.size(2, 2);
        due("taken anew", x.image(true), true);
        due("it is not undone", x.undo(), 0);
        due("columns", x.look(1), 4);
        due("back", x.image(false), true);
        due("columns", x.look(1), 2);
        // An image taken while flooding goes on flooding.
        TornFringes y = Maps.pair();
        y.join(1);
        y.begin();
        y.step(4);
        y.image(true);
        y.step(144);
        y.join(0);
        y.image(false);
        due("flooding", y.look(8), 1);
        due("laid", y.look(6), 4);
        due("fars", y.look(15), 2);
        due("goes on", y.step(144), 12);
    }

    private static void look() {
        checks.about("42");
        TornFringes x = Maps.pair();
        x.join(0);
        x.hide(15, true);
        x.cut(28, true);
        x.cut(0, true);
        x.state(-3);
        x.begin();
        x.step(4);
        x.feed(0, 0, 0, 0, 0);
        int[] looks = {4, 4, 1, 2, 0, 3, 4, 1, 1, 0, 0, -3, 8, 20, 2, 1};
        for (int what = 0; what < looks.length; what++) {
            due("look " + what, x.look(what), looks[what]);
        }
        for (int what : new int[] {16, -1, MIN, MAX}) {
            due("another", x.look(what), -100000000);
        }
        x.step(144);
        due("jumps", x.look(9), 0);
        due("tears", x.look(10), 1);
        due("charge", Maps.vortices(4, 4, 1 + 5).look(4), 1);
        due("charge", Maps.vortices(4, 4, -(1 + 5)).look(4), -1);
        TornFringes y = Maps.pair();
        Maps.flood(y);
        int jumps = 0;
        for (int e = 0; e < 32; e++) {
            jumps += y.edge(e, 4) == 1 ? 1 : 0;
        }
        due("jumps", y.look(9), jumps);
        due("some", jumps > 0, true);
        due("no tears", y.look(10), 0);
        due("NONE", TornFringes.NONE, -1);
    }
}
