/** Terms 3, the flood and its islands: a test for each sentence that names a boundary case. */
public final class TermsFloodTest {
    private static final int MIN = Integer.MIN_VALUE;
    private static final int MAX = Integer.MAX_VALUE;
    private static final int UP = 8421504;
    private static final Checks checks = new Checks();

    private TermsFloodTest() {
    }

    public static void main(String[] args) {
        nothingAtFirst();
        greatestGrade();
        leastPixels();
        lesserGradeOfAnEdge();
        islandsAsTheyBegin();
        endsWhenAllAreLaid();
        noneToBeLaid();
        toldNothingIsLaid();
        toldWithoutChange();
        refusedWhatIsLaidStays();
        gradesAtAnyTime();
        greatestMap();
        liftAtTheEnds();
        liftThatWrapsAround();
        liftOfOneIsland();
        heightsBeyondTheEnds();
        heightsThatCameRound();
        jumps();
        tears();
        fitNearestZero();
        fitBetweenNone();
        fitThatNoTurnsBring();
        settleToTheEnds();
        settleAllOrNothing();
        settleOneAndNone();
        settleLiftsTheGroupOfTheGreaterOne();
        settleWhileFlooding();
        areasAtTheEnds();
        areasOverCutsNotOverShut();
        peaks();
        range();
        checks.end("TermsFloodTest");
    }

    private static void due(String call, long got, long want) {
        checks.due(call, got, want);
    }

    private static void due(String call, boolean got, boolean want) {
        checks.due(call, got, want);
    }

    /** The pixels as they were laid, and that they are all. */
    private static void dueOrder(TornFringes x, int... pixels) {
        for (int i = 0; i < pixels.length; i++) {
            due("move of " + pixels[i], x.pixel(pixels[i], 7), i + 1);
        }
        due("laid", x.look(6), pixels.length);
    }

    private static void dueFroms(TornFringes x, int... froms) {
        for (int p = 0; p < froms.length; p++) {
            due("from of " + p, x.pixel(p, 4), froms[p]);
        }
    }

    private static void nothingAtFirst() {
        checks.about("nothing is LAID at first");
        TornFringes x = new TornFringes();
        due("laid", x.look(6), 0);
        due("islands", x.look(7), 0);
        due("flooding", x.look(8), 0);
        due("jumps", x.look(9), 0);
        due("tears", x.look(10), 0);
        due("step", x.step(1), -1);
        due("lift", x.lift(0, 0), false);
        due("island", x.island(0, 1), -1);
        due("sum", x.sum(0), -1000000000000L);
        due("range", x.range(0), -100000000);
        due("areas", x.areas(MIN, 0), 0);
        due("peaks", x.peak(-1), 0);
        due("way", x.way(0, 0), -1);
        due("between", x.between(MIN, MAX), 0);
        due("power", x.power(MIN, MAX), 0);
        due("fit", x.fit(0, 1, 0), -1000000000);
        x.begin();
        due("begun, still nothing", x.look(6), 0);
        due("no island", x.look(7), 0);
        due("no line", x.look(14), 0);
    }

    private static void greatestGrade() {
        checks.about("of those not LAID, not HIDDEN, that of the greatest GRADE, of several the least");
        TornFringes x = Maps.sized(2, 3);
        x.begin();
        x.step(1);
        dueOrder(x, 0);
        x.grade(5, 51);
        x.begin();
        x.step(1);
        dueOrder(x, 5);
        x.grade(3, 51);
        x.begin();
        x.step(1);
        dueOrder(x, 3);
        x.hide(3, true);
        x.begin();
        x.step(1);
        dueOrder(x, 5);
        TornFringes y = Maps.sized(2, 2);
        for (int p = 0; p < 4; p++) {
            y.grade(p, p == 2 ? 99 : 0);
        }
        Maps.flood(y);
        dueOrder(y, 2, 0, 1, 3);
        for (int p = 0; p < 4; p++) {
            y.grade(p, 0);
        }
        Maps.flood(y);
        dueOrder(y, 0, 1, 2, 3);
    }

    private static void leastPixels() {
        checks.about("of several the least b, then the least a");
        TornFringes x = Maps.sized(3, 3);
        x.grade(4, 60);
        Maps.flood(x);
        // From the midst: 1 ahead of 3, 5 and 7; then 0 (from 1), 2, 3 (from 0), 5 (from 2), 6 (from 3) ..
        dueOrder(x, 4, 1, 0, 2, 3, 5, 6, 7, 8);
        dueFroms(x, 1, 4, 1, 0, -1, 2, 3, 4, 5);
    }

    private static void lesserGradeOfAnEdge() {
        checks.about("that of the greatest GRADE (the lesser one of a, b)");
        TornFringes x = Maps.sized(2, 3);
        x.grade(0, 90);
        x.grade(1, 20);
        x.grade(3, 30);
        x.grade(2, 99);
        x.grade(5, 10);
        x.grade(4, 30);
        // 2 begins. To 1 it is 20, to 5 10; then from 1 to 0 20 (not 90), to 4 20: 0, and from there to 3 30.
        Maps.flood(x);
        dueOrder(x, 2, 1, 0, 3, 4, 5);
        dueFroms(x, 1, 2, -1, 0, 3, 2);
    }

    private static void islandsAsTheyBegin() {
        checks.about("it begins a new ISLAND (0, 1, .. as they begin): HEIGHT is its PHASE, FROM NONE");
        TornFringes x = Maps.sized(2, 5);
        x.ramp(0, 60);
        for (int p : new int[] {1, 6, 3, 8}) {
            x.hide(p, true);
        }
        x.grade(9, 70);
        x.grade(2, 60);
        Maps.flood(x);
        due("islands", x.look(7), 3);
        int[][] due = {{0, 9}, {1, 2}, {2, 0}};
        for (int[] island : due) {
            due("began", x.island(island[0], 0), island[1]);
            due("pixels", x.island(island[0], 1), 2);
            due("turns", x.island(island[0], 2), 0);
            due("phase", x.height(island[1]), x.pixel(island[1], 0));
            due("from", x.pixel(island[1], 4), -1);
            due("no froms", x.pixel(island[1], 6), 0);
        }
        due("height", x.height(9), -15);
        due("line of the last", x.log(1, 1), 2);
        due("line of the last", x.log(1, 2), 0);
        due("line of the first", x.log(3, 1), 0);
        due("line of the first", x.log(3, 2), 9);
        due("hidden", x.pixel(1, 5), -1);
    }

    private static void endsWhenAllAreLaid() {
        checks.about("It ends when all that are not HIDDEN are LAID");
        TornFringes x = Maps.sized(2, 2);
        x.hide(1, true);
        due("begin", x.begin(), 3);
        due("two", x.step(2), 2);
        due("flooding", x.look(8), 1);
        due("lines", x.look(14), 1);
        due("the last", x.step(1), 1);
        due("ended by it", x.look(8), 0);
        due("lines", x.look(14), 2);
        due("ended", x.log(0, 0), 2);
        due("no more", x.step(1), -1);
        due("no line more", x.look(14), 2);
        // Just one to be laid: begun and ended by one move.
        TornFringes y = Maps.told("....;..00");
        due("begin", y.begin(), 1);
        due("one", y.step(144), 1);
        due("lines", y.look(14), 2);
        due("began at", y.log(1, 2), 3);
        due("islands", y.log(0, 1), 1);
        // Fewer moves than asked for, just as many, the greatest number.
        TornFringes z = Maps.sized(12, 12);
        z.begin();
        due("144 of 144", z.step(144), 144);
        due("ended", z.look(8), 0);
        z.begin();
        due("143", z.step(143), 143);
        due("not yet", z.look(8), 1);
        due("1 of 144", z.step(144), 1);
    }

    private static void noneToBeLaid() {
        checks.about("with none to be LAID it is not FLOODING, without a line of THE LOG");
        TornFringes x = Maps.sized(2, 2);
        for (int p = 0; p < 4; p++) {
            x.hide(p, true);
        }
        due("begin", x.begin(), 0);
        due("not flooding", x.look(8), 0);
        due("step", x.step(1), -1);
        due("no line", x.look(14), 0);
        due("no islands", x.look(7), 0);
        due("no act", x.look(12), 5);
        due("would", x.would(0, 0), 0);
        due("would", x.would(1, 4), 0);
        due("apart", x.apart(0), 0);
        due("settle", x.settle(), 0);
    }

    /** Told in the midst of a flood and after it: nothing is laid any more, and it is not flooding. */
    private static void dueEmptiedBy(TornFringes x, String what, Runnable told) {
        for (int moves = 1; moves <= 144; moves += 143) {
            x.begin();
            x.step(moves);
            due(what + ": laid", x.look(6) > 0, true);
            due(what + ": flooding", x.look(8), moves == 1 ? 1 : 0);
            int acts = x.look(12);
            told.run();
            due(what + ": laid no more", x.look(6), 0);
            due(what + ": no islands", x.look(7), 0);
            due(what + ": not flooding", x.look(8), 0);
            due(what + ": no step", x.step(1), -1);
            due(what + ": no height", x.height(0), -100000000);
            due(what + ": no jumps", x.look(9), 0);
            due(what + ": an act", x.look(12), Math.min(12, acts + 1));
        }
        x.begin();
        told.run();
        due(what + ": not flooding ahead of the first move", x.step(1), -1);
    }

    private static void toldNothingIsLaid() {
        checks.about("PHASES, what is HIDDEN, JOINING, a CUT by HAND: told or done, nothing is LAID any more");
        TornFringes x = Maps.pair();
        dueEmptiedBy(x, "phase", () -> x.phase(15, x.pixel(15, 0) + 1));
        dueEmptiedBy(x, "ramp", () -> x.ramp(1, 2));
        dueEmptiedBy(x, "noise", () -> x.noise(3));
        dueEmptiedBy(x, "hide", () -> x.hide(15, x.pixel(15, 2) == 0));
        dueEmptiedBy(x, "least", () -> x.join(0));
        dueEmptiedBy(x, "nearest", () -> x.join(1));
        dueEmptiedBy(x, "cut", () -> x.cut(1, x.edge(1, 3) == 0));
        dueEmptiedBy(x, "size", () -> x.size(3, 3));
        dueEmptiedBy(x, "text", () -> {
            Maps.tell(x, "0000;0000");
            x.text();
        });
    }

    private static void toldWithoutChange() {
        checks.about("whether they change something or not");
        TornFringes x = Maps.pair();
        dueEmptiedBy(x, "the same phase", () -> x.phase(5, 127));
        dueEmptiedBy(x, "the same but for turns", () -> x.phase(5, 127 + 255));
        dueEmptiedBy(x, "a level ramp", () -> x.ramp(0, 0));
        dueEmptiedBy(x, "a ramp of turns", () -> x.ramp(255, -510));
        dueEmptiedBy(x, "the same joining", () -> x.join(0));
        dueEmptiedBy(x, "the same map", () -> x.size(4, 4));
        TornFringes y = new TornFringes();
        dueEmptiedBy(y, "joining of none", () -> y.join(0));
        // A DRAW of 65 that is 32 changes no phase: STATE whose second DRAW is such a one.
        int state = 0;
        while (second(state) % 65 != 32) {
            state++;
        }
        int still = state;
        dueEmptiedBy(y, "noise of 0", () -> {
            y.state(still);
            y.noise(1);
        });
        for (int p = 0; p < 16; p++) {
            due("phase " + p, y.pixel(p, 0), 0);
        }
    }

    /** The highest 24 bits of STATE after two DRAWS. */
    private static int second(int state) {
        int first = 1664525 * state + 1013904223;
        return 1664525 * first + 1013904223 >>> 8;
    }

    private static void refusedWhatIsLaidStays() {
        checks.about("what is refused is not told");
        for (int moves = 3; moves <= 144; moves += 141) {
            TornFringes x = Maps.pair();
            x.join(0);
            x.hide(15, true);
            x.cut(20, true);
            x.begin();
            x.step(moves);
            Everything before = Everything.of(x);
            due("phase", x.phase(16, 0), -1000);
            due("hidden already", x.hide(15, true), false);
            due("not hidden already", x.hide(0, false), false);
            due("cut already", x.cut(20, true), false);
            due("not cut by hand", x.cut(8, false), false);
            due("ramp", x.ramp(1000, 0), false);
            due("noise", x.noise(0), false);
            due("join", x.join(2), -1);
            due("size", x.size(13, 4), false);
            checks.same("after " + moves + " moves", x, before);
        }
    }

    private static void gradesAtAnyTime() {
        checks.about("GRADES can be told at any time (what is LAID stays)");
        TornFringes x = Maps.sized(3, 3);
        x.begin();
        x.step(2);
        x.grade(0, 0);
        due("laid", x.look(6), 2);
        due("flooding", x.look(8), 1);
        // 1 is laid (50): 2 and 4 by 50, 3 from 0 by 0.
        x.grade(4, 51);
        x.grade(1, 99);
        x.step(1);
        dueOrder(x, 0, 1, 4);
        x.grades(0);
        due("laid", x.look(6), 3);
        x.step(144);
        dueOrder(x, 0, 1, 4, 2, 3, 5, 6, 7, 8);
        for (int how = 0; how < 3; how++) {
            x.grades(how);
            due("laid", x.look(6), 9);
            due("height", x.height(8), 0);
            due("ended", x.look(8), 0);
        }
    }

    private static void greatestMap() {
        checks.about("144 ISLANDS");
        TornFringes x = Maps.allCut();
        due("edges", x.look(5), 264);
        due("begin", x.begin(), 144);
        due("step", x.step(144), 144);
        due("islands", x.look(7), 144);
        due("lines", x.look(14), 145);
        for (int i = 0; i < 144; i++) {
            due("began", x.island(i, 0), i);
            due("one", x.island(i, 1), 1);
            int sides = (i > 11 ? 1 : 0) + (i < 132 ? 1 : 0) + (i % 12 > 0 ? 1 : 0) + (i % 12 < 11 ? 1 : 0);
            due("edges out", x.island(i, 3), sides);
        }
        due("no more", x.island(144, 0), -1);
        due("apart", x.apart(0), 144);
        due("fit", x.fit(142, 143, 1), 1);
        due("no fit", x.fit(131, 132, 0), -1000000000);
        due("no fit", x.fit(143, 144, 0), -1000000000);
        // 1 144 and 2 would be 146, 2 144 and 14 302: no islands all the same.
        due("no such", x.fit(0, 146, 0), -1000000000);
        due("no such", x.fit(146, 0, 1), -1000000000);
        due("no such", x.fit(0, 302, 0), -1000000000);
        due("no such", x.fit(-1, 145, 0), -1000000000);
        due("lift", x.lift(143, 7), true);
        due("lift", x.lift(5, -3), true);
        due("settle", x.settle(), 1);
        for (int i = 0; i < 144; i++) {
            due("height", x.height(i), 0);
            due("turns in all", x.island(i, 2), 0);
        }
        due("groups", x.log(0, 1), 1);
        due("islands", x.log(0, 2), 144);
        // One island of all.
        TornFringes y = Maps.sized(12, 12);
        y.ramp(100, 100);
        Maps.flood(y);
        due("islands", y.look(7), 1);
        due("height", y.height(143), 2200);
        due("pixels", y.island(0, 1), 144);
        due("the way", y.pixel(143, 6), 22);
        due("its end", y.way(143, 22), 0);
        due("no more", y.way(143, 23), -1);
    }

    private static void liftAtTheEnds() {
        checks.about("LIFT: not, if one would not be an int any more");
        TornFringes x = Maps.of(2, 2, 127, 127, 127, 127);
        Maps.flood(x);
        due("just", x.lift(0, UP), true);
        due("the greatest int", x.height(0), MAX);
        due("one more", x.lift(0, 1), false);
        due("none more", x.lift(0, 0), true);
        due("still", x.height(3), MAX);
        due("one less", x.lift(0, -1), true);
        due("and back", x.lift(0, 1), true);
        due("from the one end to the other", x.lift(0, -2 * UP), true);
        due("-127 less", x.height(0), 127 - UP * 255);
        // -1 and -127 more is -128: as many turns down it is the least int.
        TornFringes y = Maps.of(2, 2, -1, 127, -1, 127);
        Maps.flood(y);
        due("-128", y.height(1), -128);
        due("just", y.lift(0, -UP), true);
        due("the least int", y.height(1), MIN);
        due("one less", y.lift(0, -1), false);
        due("turns", y.island(0, 2), -UP);
        due("the other end", y.lift(0, 2 * UP), true);
        due("turns", y.island(0, 2), UP);
        due("one above it", y.lift(0, 1), false);
        // The highest alone is beyond, the lowest alone.
        TornFringes z = Maps.of(2, 2, 0, 100, 0, 126);
        Maps.flood(z);
        due("up", z.lift(0, UP), true);
        due("126", z.height(3), MAX - 1);
        z = Maps.of(2, 2, 1, 100, 1, -127);
        Maps.flood(z);
        due("-127 is 128 here", z.height(3), 128);
        Everything before = Everything.of(z);
        due("up", z.lift(0, UP), false);
        checks.same("nothing is lifted", z, before);
        due("one less", z.lift(0, UP - 1), true);
    }

    private static void liftThatWrapsAround() {
        checks.about("LIFT by so many TURNS that ints come round");
        TornFringes x = Maps.islands();
        Everything before = Everything.of(x);
        // 16843009 turns are 4294967295: as an int -1. 8421505 turns are 2147483775.
        for (int turns : new int[] {16843009, 16843010, -16843009, -16843010, 8421505, -8421505, 33686018,
            MAX, MIN, MAX - 1, MIN + 1, 1 << 24, 1 << 30}) {
            due("lift 0 by " + turns, x.lift(0, turns), false);
            due("lift 1 by " + turns, x.lift(1, turns), false);
        }
        checks.same("nothing is lifted", x, before);
        x.lift(0, -4000000);
        due("there and beyond", x.lift(0, 12421505), false);
        due("just", x.lift(0, 12421504), true);
        due("turns in all", x.island(0, 2), UP);
    }

    private static void liftOfOneIsland() {
        checks.about("LIFT of an ISLAND: all its HEIGHTS, no other ones");
        TornFringes x = Maps.islands();
        x.lift(0, UP);
        due("the other one is not asked", x.lift(1, -UP), true);
        due("heights", x.height(0), UP * 255);
        due("heights", x.height(1), UP * 255 + 100);
        due("heights", x.height(2), -UP * 255 - 55);
        due("fit", x.fit(0, 1, 0), 2 * UP + 1);
        due("fit", x.fit(1, 0, 0), -2 * UP - 1);
        due("no tears", x.look(10), 0);
        Everything before = Everything.of(x);
        for (int none : new int[] {-1, 2, 3, 143, 144, MIN, MAX}) {
            due("none such", x.lift(none, 0), false);
        }
        checks.same("nothing is lifted", x, before);
    }

    private static void heightsBeyondTheEnds() {
        checks.about("a flood goes on from what is LIFTED");
        TornFringes x = Maps.of(2, 2, 0, 127, 0, 127);
        x.begin();
        x.step(1);
        x.lift(0, UP);
        due("goes on", x.step(144), 3);
        due("to the greatest int", x.height(1), MAX);
        due("turns", x.island(0, 2), UP);
        due("no jumps", x.look(9), 0);
        due("sum", x.sum(0), 2L * MAX + 2L * UP * 255);
        due("range", x.range(1), MAX);
        due("first of them", x.range(3), 1);
        due("between", x.between(MAX, MAX), 2);
        due("a new island is not lifted", x.begin(), 4);
        x.step(144);
        due("height", x.height(0), 0);
        due("turns", x.island(0, 2), 0);
    }

    private static void heightsThatCameRound() {
        checks.about("HEIGHTS are numbers: what they differ by does not come round");
        TornFringes x = Maps.of(2, 3, 1, -127, 0, 1, 1, 0);
        x.grade(1, 10);
        x.cut(2, true);
        x.cut(8, true);
        x.begin();
        x.step(1);
        x.lift(0, UP);
        due("the rest", x.step(144), 5);
        // 0, 3 and 4 are 2147483521; 1, by 127 more, is some other int; 2 and 5 are 0.
        for (int p : new int[] {0, 3, 4}) {
            due("height " + p, x.height(p), MAX - 126);
        }
        due("from", x.pixel(1, 4), 0);
        due("0-1 is a jump", x.edge(0, 4), 1);
        due("4-5 fits", x.fit(0, 1, 0), UP);
        due("it alone", x.fit(0, 1, 1), 1);
        due("turned", x.fit(1, 0, 0), -UP);
        due("sum", x.sum(0), 3L * (MAX - 126) + x.height(1));
        due("all", x.between(MIN, MAX), 6);
        due("it can't be lifted up", x.lift(0, 1), false);
        due("squares beyond", x.power(MIN, 0), -1);
        due("settle", x.settle(), 1);
        due("lifted", x.height(5), UP * 255);
    }

    private static void jumps() {
        checks.about("JUMPS: EDGES, not SHUT, not CUT, both LAID, of which HEIGHTS differ otherwise than by STEP");
        TornFringes x = Maps.pair();
        x.begin();
        // Laid 0, 1, .. by number: 4 is -64, 5 (from 1) is 127, where from 4 it would be -128.
        x.step(5);
        due("not laid yet", x.edge(8, 4), 0);
        due("none", x.look(9), 0);
        x.step(1);
        due("both laid", x.edge(8, 4), 1);
        due("one", x.look(9), 1);
        x.step(144);
        due("one in all", x.look(9), 1);
        due("told at the end", x.log(0, 2), 1);
        x.lift(0, 5);
        due("lifted together", x.look(9), 1);
        x.cut(8, true);
        due("nothing laid", x.look(9), 0);
        Maps.flood(x);
        due("cut", x.edge(8, 4), 0);
        due("none", x.look(9), 0);
        due("no jump told", x.log(0, 2), 0);
        due("no edge", x.edge(6, 4), -1000);
        x.cut(8, false);
        x.hide(5, true);
        Maps.flood(x);
        due("shut", x.edge(8, 4), 0);
        due("none", x.look(9), 0);
    }

    private static void tears() {
        checks.about("TEARS: the same of those that are CUT, in one ISLAND");
        TornFringes x = Maps.pair();
        x.cut(8, true);
        x.begin();
        x.step(5);
        due("not laid yet", x.edge(8, 5), 0);
        x.step(1);
        due("both laid", x.edge(8, 5), 1);
        x.step(144);
        due("one", x.look(10), 1);
        due("cut by hand and by joining", x.join(0), 1);
        Maps.flood(x);
        due("one", x.look(10), 1);
        x.hide(4, true);
        Maps.flood(x);
        due("shut", x.edge(8, 5), 0);
        due("none", x.look(10), 0);
        // Cut, but of the heights that a step makes.
        TornFringes y = Maps.sized(2, 2);
        y.cut(0, true);
        Maps.flood(y);
        due("by a step", y.edge(0, 5), 0);
        // Two islands, whatever their heights are.
        TornFringes z = Maps.islands();
        z.lift(0, 3);
        due("of two islands", z.edge(2, 5), 0);
        due("none", z.look(10), 0);
        due("no jump either", z.look(9), 0);
    }

    /** Two columns cut apart, of these steps between them, row by row: the right one is as high as it is told. */
    private static void fitNearestZero() {
        checks.about("FIT: of several the k nearest 0, then the positive one");
        TornFringes x = Maps.sized(6, 3);
        for (int row = 0; row < 6; row++) {
            x.phase(3 * row, row * 102);
            x.cut(6 * row, true);
        }
        for (int row = 1; row < 5; row++) {
            x.hide(3 * row + 1, true);
        }
        Maps.flood(x);
        // The left column climbs to 510, the two at its ends lack 0 and 2 turns.
        due("left", x.height(15), 510);
        due("nearest 0", x.fit(0, 1, 0), 0);
        due("by one", x.fit(0, 1, 1), 1);
        due("nearest 0", x.fit(1, 0, 0), 0);
        x.lift(1, 1);
        due("of -1 and 1 the positive one", x.fit(0, 1, 0), 1);
        due("of 1 and -1 the positive one", x.fit(1, 0, 0), 1);
        x.lift(1, 1);
        due("of -2 and 0", x.fit(0, 1, 0), 0);
        x.lift(1, 1);
        due("of -3 and -1", x.fit(0, 1, 0), -1);
        due("of 3 and 1", x.fit(1, 0, 0), 1);
        x.lift(1, -6);
        due("of 3 and 5", x.fit(0, 1, 0), 3);
        due("of -3 and -5", x.fit(1, 0, 0), -3);
        x.lift(1, UP - 3);
        due("of -UP + 6 and -UP + 8", x.fit(0, 1, 0), -UP + 8);
    }

    private static void fitBetweenNone() {
        checks.about("FIT: NONE - 999999999 if there is no such EDGE, or none such, or another what");
        TornFringes x = Maps.sized(2, 5);
        for (int p : new int[] {1, 6, 3, 8}) {
            x.hide(p, true);
        }
        Maps.flood(x);
        due("islands", x.look(7), 3);
        for (int i = -1; i <= 3; i++) {
            for (int j = -1; j <= 3; j++) {
                due("no edge", x.fit(i, j, 0), -1000000000);
                due("no edge", x.fit(i, j, 1), -1000000000);
            }
        }
        due("settle", x.settle(), 3);
        TornFringes y = Maps.islands();
        for (int what : new int[] {-1, 2, 3, MIN, MAX}) {
            due("another what", y.fit(0, 1, what), -1000000000);
        }
        y.begin();
        y.step(4);
        due("one alone", y.look(7), 1);
        due("the other not begun", y.fit(0, 1, 0), -1000000000);
        y.step(1);
        due("begun", y.fit(0, 1, 0), 1);
        due("by one so far", y.fit(0, 1, 1), 1);
    }

    /** Over its one edge a height came round, so no turns fit it; it is there, though. */
    private static void fitThatNoTurnsBring() {
        checks.about("FIT: NONE - 999999999 if there is no such EDGE; the most that have it may be none");
        TornFringes x = Maps.of(2, 3, 1, -127, 0, 0, 0, 100);
        x.hide(3, true);
        x.hide(4, true);
        x.cut(2, true);
        x.cut(5, true);
        x.begin();
        x.step(1);
        x.lift(0, UP);
        due("the rest", x.step(144), 3);
        due("islands", x.look(7), 3);
        due("beyond the greatest int", x.edge(0, 4), 1);
        due("edges out", x.island(0, 3), 1);
        due("of all k, each for none, the nearest 0", x.fit(0, 1, 0), 0);
        due("by none", x.fit(0, 1, 1), 0);
        due("turned", x.fit(1, 0, 0), 0);
        due("turned, by none", x.fit(1, 0, 1), 0);
        due("another what", x.fit(0, 1, 2), -1000000000);
        due("no edge", x.fit(0, 2, 0), -1000000000);
        due("no edge", x.fit(0, 2, 1), -1000000000);
        x.lift(2, 3);
        due("lacking", x.fit(1, 2, 0), -3);
        due("settled by one edge, then by none", x.settle(), 1);
        due("line", x.log(0, 1), 1);
        due("lifted", x.height(5), 100);
        due("turns", x.island(2, 2), 0);
        due("not lifted", x.height(2), 0);
        due("turns", x.island(1, 2), 0);
        due("turns", x.island(0, 2), UP);
    }

    /** 2 by 2, two columns cut apart, of these phases. */
    private static TornFringes columns(int left, int right) {
        TornFringes x = Maps.of(2, 2, left, right, left, right);
        x.cut(0, true);
        x.cut(4, true);
        Maps.flood(x);
        due("islands", x.look(7), 2);
        return x;
    }

    private static void settleToTheEnds() {
        checks.about("SETTLING: would a HEIGHT not be an int, nothing is done");
        TornFringes x = columns(0, 127);
        x.lift(0, UP);
        due("just", x.settle(), 1);
        due("the greatest int", x.height(1), MAX);
        due("turns", x.island(1, 2), UP);
        x = columns(1, -127);
        x.lift(0, UP);
        Everything before = Everything.of(x);
        due("one beyond", x.settle(), -1);
        checks.same("nothing is done", x, before);
        x = columns(-1, 127);
        x.lift(0, -UP);
        due("just", x.settle(), 1);
        due("the least int", x.height(3), MIN);
        x = columns(-2, 126);
        x.lift(0, -UP);
        before = Everything.of(x);
        due("one beyond", x.settle(), -1);
        checks.same("nothing is done", x, before);
        // From the one end to the other.
        x = columns(0, 127);
        x.lift(0, -UP);
        x.lift(1, UP);
        due("all the way down", x.settle(), 1);
        due("height", x.height(1), 127 - UP * 255);
        due("turns in all", x.island(1, 2), -UP);
    }

    private static void settleAllOrNothing() {
        checks.about("SETTLING: nothing is done, also not what would fit");
        TornFringes x = Maps.sized(2, 3);
        x.ramp(0, 100);
        for (int e : new int[] {0, 2, 6, 8}) {
            x.cut(e, true);
        }
        Maps.flood(x);
        due("islands", x.look(7), 3);
        x.lift(0, UP);
        Everything before = Everything.of(x);
        due("the third is beyond", x.settle(), -1);
        checks.same("the second isn't lifted", x, before);
        due("undo", x.undo() >= 0, true);
        due("settle", x.settle(), 1);
        due("height", x.height(2), 200);
    }

    private static void settleOneAndNone() {
        checks.about("how many GROUPS are left (0 without ISLANDS)");
        TornFringes x = new TornFringes();
        due("without", x.settle(), 0);
        x.begin();
        due("begun, still without", x.settle(), 0);
        due("flooding", x.look(8), 1);
        x.step(1);
        due("one", x.settle(), 1);
        x.step(144);
        due("one", x.settle(), 1);
        due("line", x.log(0, 1), 1);
        due("line", x.log(0, 2), 1);
        TornFringes y = Maps.islands();
        y.hide(2, true);
        y.hide(6, true);
        Maps.flood(y);
        due("two apart", y.settle(), 2);
        due("nothing lifted", y.island(1, 2), 0);
        due("line", y.log(0, 1), 2);
        due("line", y.log(0, 2), 2);
    }

    private static void settleLiftsTheGroupOfTheGreaterOne() {
        checks.about("SETTLING: all ISLANDS of the GROUP of j are LIFTED by k, both GROUPS are one");
        // Three columns: the left one begins, then the right one, then that in the midst, by 3 and by 2 edges.
        TornFringes x = Maps.sized(3, 3);
        x.hide(8, true);
        for (int row = 0; row < 3; row++) {
            x.grade(3 * row, 90);
            x.grade(3 * row + 2, 80);
            x.cut(6 * row, true);
            x.cut(6 * row + 2, true);
        }
        Maps.flood(x);
        due("left", x.island(0, 0), 0);
        due("right", x.island(1, 0), 2);
        due("midst", x.island(2, 0), 1);
        x.lift(1, 5);
        // 0 and 2 first; then of 1 and 2 the group of 2 is lifted, with 0 in it.
        due("settle", x.settle(), 1);
        dueTurns(x, 5, 5, 5);
        x.lift(1, -2);
        due("settle", x.settle(), 1);
        dueTurns(x, 3, 3, 3);
        x.lift(2, 7);
        due("settle", x.settle(), 1);
        dueTurns(x, 3, 3, 3);
        due("all as high", x.between(765, 765), 8);
    }

    private static void dueTurns(TornFringes x, int... turns) {
        for (int i = 0; i < turns.length; i++) {
            due("turns of " + i, x.island(i, 2), turns[i]);
        }
    }

    private static void settleWhileFlooding() {
        checks.about("SETTLING while it is FLOODING");
        TornFringes x = Maps.islands();
        x.begin();
        x.step(6);
        due("two so far", x.look(7), 2);
        due("settle", x.settle(), 1);
        due("lifted", x.height(2), 200);
        due("flooding", x.look(8), 1);
        due("the rest", x.step(144), 2);
        for (int p = 0; p < 8; p++) {
            due("height " + p, x.height(p), p % 4 * 100);
        }
    }

    private static void areasAtTheEnds() {
        checks.about("AREAS of a level: of that HEIGHT at least");
        TornFringes x = Maps.of(2, 2, 127, 126, 127, 126);
        Maps.flood(x);
        x.lift(0, UP);
        due("of the greatest int", x.areas(MAX, 1), 2);
        due("their least", x.areas(MAX, 2), 0);
        due("of one less", x.areas(MAX - 1, 1), 4);
        due("of the least int", x.areas(MIN, 1), 4);
        x = Maps.of(2, 2, -1, 127, -1, 127);
        Maps.flood(x);
        x.lift(0, -UP);
        due("the least int", x.height(1), MIN);
        due("all", x.areas(MIN, 1), 4);
        due("without it", x.areas(MIN + 1, 1), 2);
        due("none", x.areas(MAX, 0), 0);
        due("none", x.areas(MAX, 1), 0);
        due("none", x.areas(MAX, 2), -1);
        TornFringes y = Maps.sized(12, 12);
        Maps.flood(y);
        due("one of all", y.areas(0, 0), 1);
        due("144", y.areas(0, 1), 144);
        due("from 0 on", y.areas(0, 2), 0);
        // As a chessboard: 72 of one pixel each.
        for (int p = 0; p < 144; p++) {
            y.phase(p, (p / 12 + p) % 2 * 5);
        }
        Maps.flood(y);
        due("72", y.areas(5, 0), 72);
        due("of one", y.areas(5, 1), 1);
        due("the first", y.areas(5, 2), 1);
    }

    private static void areasOverCutsNotOverShut() {
        checks.about("AREAS: as far as EDGES that are not SHUT (CUT or not) lead");
        TornFringes x = Maps.allCut();
        Maps.flood(x);
        due("over cuts, over islands", x.areas(0, 0), 1);
        due("all", x.areas(0, 1), 144);
        for (int p = 0; p < 12; p++) {
            x.hide(60 + p, true);
        }
        Maps.flood(x);
        due("parted by the hidden row", x.areas(0, 0), 2);
        due("the greater one", x.areas(0, 1), 72);
        due("from", x.areas(0, 2), 72);
        x.hide(0, true);
        Maps.flood(x);
        due("less", x.areas(0, 0), 2);
        // Round a low midst, from the least pixel down, right, up and left, the other way round, too.
        TornFringes z = Maps.of(3, 4, 9, 0, 9, 9, 9, 0, 0, 9, 9, 9, 9, 9);
        Maps.flood(z);
        due("one", z.areas(9, 0), 1);
        due("nine", z.areas(9, 1), 9);
        z = Maps.of(3, 4, 0, 0, 0, 9, 9, 9, 0, 9, 9, 9, 9, 9);
        Maps.flood(z);
        due("one", z.areas(9, 0), 1);
        due("its least pixel", z.areas(9, 2), 3);
        due("eight", z.areas(9, 1), 8);
        // By its end a row does not touch the next one.
        TornFringes y = Maps.of(2, 3, 0, 0, 9, 9, 0, 0);
        Maps.flood(y);
        due("not beside one another", y.areas(9, 0), 2);
    }

    private static void peaks() {
        checks.about("A PEAK: higher than each of those LAID to which an EDGE leads that is not SHUT");
        TornFringes x = Maps.of(2, 3, 0, 9, 9, 0, 0, 0);
        Maps.flood(x);
        due("as high is not higher", x.peak(-1), 0);
        x.phase(2, 8);
        Maps.flood(x);
        due("one", x.peak(0), 1);
        due("no more", x.peak(1), -1);
        x.hide(1, true);
        Maps.flood(x);
        due("the other one", x.peak(0), 2);
        due("no more", x.peak(1), -1);
        // 0 and 3 are as high as one another.
        x.phase(0, 1);
        Maps.flood(x);
        due("two", x.peak(-1), 2);
        due("first", x.peak(0), 0);
        // Over a cut, of another island.
        TornFringes y = Maps.islands();
        due("none", y.peak(-1), 0);
        y.settle();
        due("none", y.peak(-1), 0);
        TornFringes z = Maps.told("....;..ff");
        Maps.flood(z);
        due("one alone", z.peak(0), 3);
        // At the ends of the ints.
        TornFringes w = Maps.of(2, 2, -1, 127, 127, 127);
        Maps.flood(w);
        w.lift(0, -UP);
        due("the least int is low", w.peak(0), 0);
        due("no more", w.peak(-1), 1);
    }

    private static void range() {
        checks.about("the first PIXEL with the least HEIGHT, with the greatest");
        for (int p = 0; p < 6; p++) {
            TornFringes x = Maps.sized(2, 3);
            x.phase(p, -5);
            Maps.flood(x);
            due("least", x.range(0), -5);
            due("it", x.range(2), p);
            due("greatest", x.range(1), 0);
            due("the first", x.range(3), p == 0 ? 1 : 0);
            x.phase(p, 5);
            Maps.flood(x);
            due("least", x.range(0), 0);
            due("the first", x.range(2), p == 0 ? 1 : 0);
            due("greatest", x.range(1), 5);
            due("it", x.range(3), p);
        }
        TornFringes y = Maps.sized(12, 12);
        Maps.flood(y);
        due("all as high", y.range(2), 0);
        due("all as high", y.range(3), 0);
        y.hide(0, true);
        Maps.flood(y);
        due("the first that is laid", y.range(2), 1);
        due("the first that is laid", y.range(3), 1);
        y.begin();
        due("none laid", y.range(0), -100000000);
        y.step(1);
        due("one laid", y.range(3), 1);
    }
}
