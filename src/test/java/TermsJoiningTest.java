/** Terms 2, joining: a test for each sentence that names a boundary case. */
public final class TermsJoiningTest {
    private static final int MIN = Integer.MIN_VALUE;
    private static final int MAX = Integer.MAX_VALUE;
    private static final Checks checks = new Checks();

    private TermsJoiningTest() {
    }

    public static void main(String[] args) {
        farOfTwo();
        farToBorder();
        noneTorn();
        oneTorn();
        likeChargesAreNotJoined();
        twelveAtMost();
        leastBorderAhead();
        leastPartner();
        nearestFirstRing();
        nearestBorderAhead();
        nearestOther();
        nearestOfAll();
        otherManners();
        cutsToEachSide();
        cutsOfNarrowMaps();
        cutsOfTwo();
        overMoreThanOnce();
        doneAgain();
        staysTillAMapIsTold();
        comesBackByUndo();
        checks.end("TermsJoiningTest");
    }

    private static void due(String call, long got, long want) {
        checks.due(call, got, want);
    }

    private static void due(String call, boolean got, boolean want) {
        checks.due(call, got, want);
    }

    /** What joined() tells of all cuts, three numbers each. */
    private static void dueCuts(TornFringes x, int... cuts) {
        due("how many cuts", x.joined(-1, 0), cuts.length / 3);
        int fars = 0;
        for (int i = 0; i < cuts.length; i++) {
            due("cut " + i / 3 + ", " + i % 3, x.joined(i / 3, i % 3), cuts[i]);
            fars += i % 3 == 2 ? cuts[i] : 0;
        }
        due("no cut more", x.joined(cuts.length / 3, 0), -1000);
        due("all fars", x.look(15), fars);
    }

    /** These edges are gone over once each, no other one. */
    private static void dueOver(TornFringes x, int... edges) {
        for (int e = 0; e < 2 * x.look(0) * x.look(1); e++) {
            int times = 0;
            for (int edge : edges) {
                times += edge == e ? 1 : 0;
            }
            if (x.edge(e, 2) != -1000) {
                due("over edge " + e, x.edge(e, 2), times);
            }
        }
        due("edges", x.look(5), edges.length);
    }

    private static void farOfTwo() {
        checks.about("FAR of two RINGS: how many rows, and columns, they are apart, together");
        TornFringes x = Maps.sized(12, 12);
        due("the farthest", x.far(0, 130), 20);
        due("turned", x.far(130, 0), 20);
        due("across", x.far(10, 120), 20);
        due("beside", x.far(0, 1), 1);
        due("below", x.far(0, 12), 1);
        due("itself", x.far(65, 65), 0);
        due("from one row's end to the next row's start", x.far(10, 12), 11);
        due("no ring in the last column", x.far(0, 11), -1);
        due("no ring in the last row", x.far(0, 132), -1);
        due("of none", x.far(11, 0), -1);
        due("no ring", x.far(0, -2), -1);
        due("of none to the border", x.far(-1, -1), -1);
        due("of none to the border", x.far(143, -1), -1);
        for (int none : new int[] {MIN, MAX, 144, 1 << 16}) {
            due("of none", x.far(none, 0), -1);
            due("to none", x.far(0, none), -1);
            due("of none to the border", x.far(none, -1), -1);
        }
        due("the only one", Maps.sized(2, 2).far(0, 0), 0);
        due("no other one", Maps.sized(2, 2).far(0, 1), -1);
    }

    private static void farToBorder() {
        checks.about("of one and the BORDER: the least of row and 1, R less 1 less row, ..");
        for (int r = 2; r <= 12; r++) {
            for (int c = 2; c <= 12; c++) {
                TornFringes x = Maps.sized(r, c);
                for (int row = 0; row < r - 1; row++) {
                    for (int col = 0; col < c - 1; col++) {
                        int far = row + 1;
                        far = r - 1 - row < far ? r - 1 - row : far;
                        far = col + 1 < far ? col + 1 : far;
                        far = c - 1 - col < far ? c - 1 - col : far;
                        due("far of " + row + " " + col, x.far(row * c + col, -1), far);
                    }
                }
            }
        }
        due("the least there is", Maps.sized(2, 2).far(0, -1), 1);
        due("the greatest there is", Maps.sized(12, 12).far(65, -1), 6);
    }

    private static void noneTorn() {
        checks.about("JOINING without TORN ones");
        for (int manner = 0; manner < 2; manner++) {
            TornFringes x = new TornFringes();
            due("join", x.join(manner), 0);
            dueCuts(x);
            dueOver(x);
            due("an act", x.look(12), 1);
            due("a line", x.look(14), 1);
            due("joined", x.log(0, 0), 0);
            due("none", x.log(0, 1), 0);
            due("no fars", x.log(0, 2), 0);
            due("would", x.would(manner, 3), 0);
        }
    }

    private static void oneTorn() {
        checks.about("each TORN RING is joined to one of the other CHARGE, or to the BORDER");
        for (int sign = -1; sign <= 1; sign += 2) {
            for (int manner = 0; manner < 2; manner++) {
                TornFringes x = Maps.vortices(5, 5, sign * (1 + 6));
                due("join", x.join(manner), 2);
                dueCuts(x, 6, -1, 2);
                TornFringes y = Maps.vortices(2, 2, sign);
                due("join", y.join(manner), 1);
                dueCuts(y, 0, -1, 1);
                dueOver(y, 0);
            }
        }
    }

    private static void likeChargesAreNotJoined() {
        checks.about("joined to one of the other CHARGE");
        // Side by side in the midst of 12 by 12, 6 and 5 from the border.
        TornFringes x = Maps.vortices(12, 12, 1 + 65, 1 + 66);
        due("least", x.join(0), 11);
        dueCuts(x, 65, -1, 6, 66, -1, 5);
        due("nearest", x.join(1), 11);
        dueCuts(x, 65, -1, 6, 66, -1, 5);
        TornFringes y = Maps.vortices(12, 12, -1 - 65, -1 - 66);
        due("least", y.join(0), 11);
        due("nearest", y.join(1), 11);
    }

    /** Rings at the left and the right border, two rows apart, the signs in turn; the 13th in the midst. */
    private static TornFringes byTheSides(int count) {
        int[] rings = new int[count];
        for (int i = 0; i < count; i++) {
            int ring = i < 12 ? i / 2 * 24 + i % 2 * 10 : 65;
            rings[i] = i % 2 == i / 2 % 2 ? 1 + ring : -1 - ring;
        }
        return Maps.vortices(12, 12, rings);
    }

    private static void twelveAtMost() {
        checks.about("LEAST (12 TORN ones at most); NONE if there are more (nothing is done then)");
        TornFringes x = byTheSides(12);
        due("torn", x.torn(-1), 12);
        due("12 by least", x.join(0), 12);
        for (int i = 0; i < 12; i++) {
            due("first", x.joined(i, 0), i / 2 * 24 + i % 2 * 10);
            due("border", x.joined(i, 1), -1);
        }
        due("would", x.would(0, 3), 12);
        TornFringes y = byTheSides(13);
        due("torn", y.torn(-1), 13);
        due("nearest", y.join(1), 18);
        Maps.flood(y);
        Everything before = Everything.of(y);
        due("13 by least", y.join(0), -1);
        for (int what = 0; what < 5; what++) {
            due("would", y.would(0, what), -1);
        }
        checks.same("nothing is done", y, before);
        due("would by nearest", y.would(1, 3), 18);
        // With one of the 13 hidden away LEAST can be again.
        y.hide(65, true);
        due("torn", y.torn(-1), 12);
        due("12 again", y.join(0), 12);
        TornFringes z = Maps.allTorn();
        due("121 by least", z.join(0), -1);
    }

    private static void leastBorderAhead() {
        checks.about("of several such: by number: the BORDER if it can be so");
        // In row 0 columns 1 and 3: 2 apart, each 1 from the border.
        TornFringes x = Maps.vortices(6, 6, 1 + 1, -1 - 3);
        due("join", x.join(0), 2);
        dueCuts(x, 1, -1, 1, 3, -1, 1);
        // One apart is less than 2.
        TornFringes y = Maps.vortices(6, 6, 1 + 1, -1 - 2);
        due("join", y.join(0), 1);
        dueCuts(y, 1, 2, 1);
        // 27 is 3 from the border, 28 from 27 and 29 one each: 27 to the border and 28 with 29, or 27 with 28
        // and 29 (3) to the border are 4 both.
        TornFringes z = Maps.vortices(6, 12, 1 + 27, -1 - 28, 1 + 29);
        due("fars", 100 * z.far(27, -1) + 10 * z.far(28, -1) + z.far(29, -1), 333);
        due("join", z.join(0), 4);
        dueCuts(z, 27, -1, 3, 28, 29, 1);
        due("nearest takes the first two", z.join(1), 4);
        dueCuts(z, 27, 28, 1, 29, -1, 3);
    }

    private static void leastPartner() {
        checks.about("else the partner of the least number");
        // 65 is 6 from the border, 66 and 77 are 5 from it, and 1 from 65.
        TornFringes x = Maps.vortices(12, 12, 1 + 65, -1 - 66, -1 - 77);
        due("join", x.join(0), 6);
        dueCuts(x, 65, 66, 1, 77, -1, 5);
        TornFringes y = Maps.vortices(12, 12, -1 - 65, 1 + 66, 1 + 77);
        due("join", y.join(0), 6);
        dueCuts(y, 65, 66, 1, 77, -1, 5);
        // Four in a square: 65 with 66 and 77 with 78, or 65 with 77 and 66 with 78.
        TornFringes z = Maps.vortices(12, 12, 1 + 65, -1 - 66, -1 - 77, 1 + 78);
        due("join", z.join(0), 2);
        dueCuts(z, 65, 66, 1, 77, 78, 1);
        due("nearest", z.join(1), 2);
        dueCuts(z, 65, 66, 1, 77, 78, 1);
    }

    private static void nearestFirstRing() {
        checks.about("NEAREST: of several the least first RING (of two the lesser number)");
        // 51 with 52, 52 with 53, each 1.
        TornFringes x = Maps.vortices(10, 12, 1 + 51, -1 - 52, 1 + 53);
        due("join", x.join(1), 6);
        dueCuts(x, 51, 52, 1, 53, -1, 5);
        // 27 is 2 from 43, which is 2 from the border, too: 27 is the lesser one.
        TornFringes y = Maps.vortices(8, 8, 1 + 27, -1 - 43);
        due("fars", 100 * y.far(27, -1) + 10 * y.far(43, -1) + y.far(27, 43), 422);
        due("join", y.join(1), 2);
        dueCuts(y, 27, 43, 2);
        // 11 is 2 from the border and from 27: it is the lesser one, and the border is ahead.
        TornFringes z = Maps.vortices(8, 8, 1 + 11, -1 - 27);
        due("fars", 100 * z.far(11, -1) + 10 * z.far(27, -1) + z.far(11, 27), 242);
        due("join", z.join(1), 6);
        dueCuts(z, 11, -1, 2, 27, -1, 4);
        due("least", z.join(0), 2);
        dueCuts(z, 11, 27, 2);
    }

    private static void nearestBorderAhead() {
        checks.about("NEAREST: then the BORDER ahead of others");
        TornFringes x = Maps.vortices(8, 8, 1 + 11, -1 - 13);
        due("fars", 100 * x.far(11, -1) + 10 * x.far(13, -1) + x.far(11, 13), 222);
        due("join", x.join(1), 4);
        dueCuts(x, 11, -1, 2, 13, -1, 2);
        due("least", x.join(0), 2);
        dueCuts(x, 11, 13, 2);
        // One nearer than the border.
        TornFringes y = Maps.vortices(8, 8, 1 + 11, -1 - 12);
        due("join", y.join(1), 1);
        dueCuts(y, 11, 12, 1);
    }

    private static void nearestOther() {
        checks.about("NEAREST: then the least other one");
        TornFringes x = Maps.vortices(12, 12, 1 + 65, -1 - 66, -1 - 77);
        due("join", x.join(1), 6);
        dueCuts(x, 65, 66, 1, 77, -1, 5);
        // A nearer one of a greater number is ahead: 77 is 1 from 65, 67 is 2.
        TornFringes y = Maps.vortices(12, 12, 1 + 65, -1 - 67, -1 - 77);
        due("join", y.join(1), 5);
        dueCuts(y, 65, 77, 1, 67, -1, 4);
        due("least", y.join(0), 5);
        dueCuts(y, 65, 77, 1, 67, -1, 4);
    }

    /** All that is nearest is 1 here: the rim goes to the border, within two and two are joined. */
    private static void nearestOfAll() {
        checks.about("NEAREST: again and again, of all 121 TORN");
        TornFringes x = Maps.allTorn();
        due("would", x.would(1, 3), 80);
        due("join", x.join(1), 80);
        due("cuts", x.joined(-1, 0), 80);
        for (int i = 0; i < 80; i++) {
            due("far " + i, x.joined(i, 2), 1);
        }
        for (int col = 0; col < 11; col++) {
            due("row 0", x.joined(col, 0), col);
            due("border", x.joined(col, 1), -1);
        }
        int[][] row1 = {{12, -1}, {13, 25}, {14, 15}, {16, 17}, {18, 19}, {20, 21}, {22, -1}};
        int[][] row2 = {{24, -1}, {26, 27}, {28, 29}, {30, 31}, {32, 33}, {34, -1}};
        int i = 11;
        for (int below = 0; below < 4; below++) {
            i = dueRow(x, i, row1, 24 * below);
            i = dueRow(x, i, row2, 24 * below);
        }
        i = dueRow(x, i, row1, 96);
        due("row 10 begins", x.joined(i, 0), 120);
        due("border", x.joined(i, 1), -1);
        due("121 is joined with 109", x.joined(i + 1, 0), 122);
        due("the last", x.joined(79, 0), 130);
        due("border", x.joined(79, 1), -1);
        due("no more", x.joined(80, 0), -1000);
        due("line", x.log(0, 1), 121);
        due("line", x.log(0, 2), 80);
    }

    private static int dueRow(TornFringes x, int first, int[][] row, int more) {
        int i = first;
        for (int[] cut : row) {
            due("first of " + i, x.joined(i, 0), cut[0] + more);
            due("other of " + i, x.joined(i, 1), cut[1] < 0 ? -1 : cut[1] + more);
            i++;
        }
        return i;
    }

    private static void otherManners() {
        checks.about("NONE if there is none such MANNER");
        TornFringes x = Maps.pair();
        x.join(0);
        Maps.flood(x);
        Everything before = Everything.of(x);
        for (int manner : new int[] {2, 3, -1, -2, 256, 257, 65536, MIN, MIN + 1, MAX}) {
            due("join " + manner, x.join(manner), -1);
            due("would " + manner, x.would(manner, 3), -1);
        }
        checks.same("nothing is done", x, before);
    }

    private static void cutsToEachSide() {
        checks.about("to the BORDER straight to the side that is the least FAR: of several up, down, left, right");
        dueCutOf(4, 4, 5, 2, 4 * 0 + 1, 4 * 1 + 1, -1);
        // Up alone: row 0 of 4 by 6, column 2. Down alone: row 2.
        dueCutOf(4, 6, 2, 1, 2, -1, -1);
        dueCutOf(4, 6, 14, 1, 20, -1, -1);
        // Up and down as far: row 1 of 4 by 7, column 2.
        dueCutOf(4, 7, 9, 2, 2, 9, -1);
        // Up and left as far: row 1 of 7 by 7, column 1. Up and right: column 4.
        dueCutOf(7, 7, 8, 2, 1, 8, -1);
        dueCutOf(7, 7, 11, 2, 4, 11, -1);
        // Down and left as far: row 4 of 7 by 7, column 1. Down and right: column 4.
        dueCutOf(7, 7, 29, 2, 36, 43, -1);
        dueCutOf(7, 7, 32, 2, 39, 46, -1);
        // Left alone, left and right as far: rows down, so an edge downwards in each column.
        dueCutOf(8, 6, 19, 2, -1, 18, 19);
        dueCutOf(8, 4, 13, 2, -1, 12, 13);
        // Right alone: row 3 of 8 by 6, column 3: columns 4 and 5.
        dueCutOf(8, 6, 21, 2, -1, 22, 23);
        // The farthest: row 5 of 12 by 12, column 5, up: six edges.
        TornFringes x = Maps.vortices(12, 12, 1 + 65);
        due("join", x.join(0), 6);
        dueOver(x, 2 * 5, 2 * 17, 2 * 29, 2 * 41, 2 * 53, 2 * 65);
    }

    /**
     * The cut of one ring alone goes over the edges between two pixels beside one another, the left ones told
     * (up or down, ended by -1), or over those downwards from two pixels (after -1).
     */
    private static void dueCutOf(int r, int c, int ring, int far, int a, int b, int last) {
        for (int manner = 0; manner < 2; manner++) {
            TornFringes x = Maps.vortices(r, c, 1 + ring);
            due("join " + r + " " + c + " " + ring, x.join(manner), far);
            if (a == -1) {
                dueOver(x, 2 * b + 1, 2 * last + 1);
            } else if (b == -1) {
                dueOver(x, 2 * a);
            } else {
                dueOver(x, 2 * a, 2 * b);
            }
        }
    }

    private static void cutsOfNarrowMaps() {
        checks.about("leaving the MAP, in that RING and at that side");
        // Of 2 rows all are 1 from above and from below.
        for (int col = 0; col < 11; col++) {
            TornFringes x = Maps.vortices(2, 12, 1 + col);
            due("join", x.join(1), 1);
            dueOver(x, 2 * col);
        }
        // Of 2 columns: the first upwards, the last downwards, those between to the left.
        for (int row = 0; row < 11; row++) {
            TornFringes x = Maps.vortices(12, 2, -1 - 2 * row);
            due("join", x.join(0), 1);
            dueOver(x, row == 0 ? 0 : row == 10 ? 2 * 22 : 2 * (2 * row) + 1);
        }
        TornFringes y = Maps.vortices(3, 3, 1 + 4);
        due("join", y.join(0), 1);
        dueOver(y, 2 * 7);
    }

    private static void cutsOfTwo() {
        checks.about("from the RING of the lesser number along its row to the column of the other one, then along it");
        // Row 4, column 4 with: beside, below, right and below, left and below.
        TornFringes x = Maps.vortices(12, 12, 1 + 52, -1 - 53);
        x.join(0);
        dueOver(x, 2 * 53 + 1);
        x = Maps.vortices(12, 12, 1 + 52, -1 - 64);
        x.join(0);
        dueOver(x, 2 * 64);
        x = Maps.vortices(12, 12, 1 + 52, -1 - 65);
        x.join(0);
        dueOver(x, 2 * 53 + 1, 2 * 65);
        x = Maps.vortices(12, 12, 1 + 52, -1 - 63);
        x.join(0);
        dueOver(x, 2 * 52 + 1, 2 * 63);
        x = Maps.vortices(12, 12, -1 - 52, 1 + 74);
        x.join(0);
        dueOver(x, 2 * 52 + 1, 2 * 51 + 1, 2 * 62, 2 * 74);
        x = Maps.vortices(12, 12, -1 - 52, 1 + 78);
        x.join(1);
        dueOver(x, 2 * 53 + 1, 2 * 54 + 1, 2 * 66, 2 * 78);
    }

    private static void overMoreThanOnce() {
        checks.about("An EDGE may be gone over more than once");
        // 51 with 67 is 5, 54 with 91 is 4 (9 together, as 51 with 91 and 54 with 67 are: the least partner).
        TornFringes x = Maps.vortices(12, 12, -1 - 51, -1 - 54, 1 + 67, 1 + 91);
        due("join", x.join(0), 9);
        dueCuts(x, 51, 67, 5, 54, 91, 4);
        int[] once = {2 * 52 + 1, 2 * 53 + 1, 2 * 54 + 1, 2 * 79, 2 * 91};
        for (int e : once) {
            due("over " + e, x.edge(e, 2), 1);
        }
        due("over 55-67", x.edge(2 * 55 + 1, 2), 2);
        due("over 67-68", x.edge(2 * 67, 2), 2);
        due("edges, each once", x.look(5), 7);
        x.cut(2 * 67, true);
        due("edges, each once", x.look(5), 7);
        x.cut(2 * 67, false);
        due("still by joining", x.edge(2 * 67, 2), 2);
        // Two of like charge, one below the other, both upwards to the border.
        TornFringes y = Maps.vortices(12, 12, 1 + 17, 1 + 29);
        due("join", y.join(1), 5);
        due("over 5-6", y.edge(2 * 5, 2), 2);
        due("over 17-18", y.edge(2 * 17, 2), 2);
        due("over 29-30", y.edge(2 * 29, 2), 1);
        due("edges", y.look(5), 3);
    }

    private static void doneAgain() {
        checks.about("JOINING stays as it was done till it is done again");
        TornFringes x = Maps.pair();
        due("least", x.join(0), 1);
        dueOver(x, 8);
        due("nearest", x.join(1), 2);
        dueOver(x, 0, 9);
        dueCuts(x, 0, -1, 1, 4, -1, 1);
        due("least again", x.join(0), 1);
        dueOver(x, 8);
        dueCuts(x, 0, 4, 1);
        x.hide(0, true);
        due("one is torn", x.torn(-1), 1);
        dueCuts(x, 0, 4, 1);
        due("again", x.join(0), 1);
        dueCuts(x, 4, -1, 1);
        dueOver(x, 9);
    }

    private static void staysTillAMapIsTold() {
        checks.about("whatever PHASES are told later, till .. a MAP is told");
        TornFringes x = Maps.pair();
        x.join(0);
        x.phase(0, 99);
        dueCuts(x, 0, 4, 1);
        x.ramp(5, 100);
        dueCuts(x, 0, 4, 1);
        x.noise(60);
        dueCuts(x, 0, 4, 1);
        x.hide(4, true);
        dueCuts(x, 0, 4, 1);
        x.grades(1);
        x.cut(0, true);
        x.cut(0, false);
        dueCuts(x, 0, 4, 1);
        dueOver(x, 8);
        due("refused", x.size(4, 1), false);
        dueCuts(x, 0, 4, 1);
        due("wrong", x.text(), -1);
        dueCuts(x, 0, 4, 1);
        due("told", x.size(4, 4), true);
        dueCuts(x);
        dueOver(x);
        TornFringes y = Maps.pair();
        y.join(0);
        Maps.tell(y, Maps.rowsOf(4, 4));
        due("told", y.text(), 16);
        dueCuts(y);
        dueOver(y);
    }

    private static void comesBackByUndo() {
        checks.about("JOINING is as it was ahead of an ACT, as it was when THE IMAGE was taken");
        TornFringes x = Maps.pair();
        x.join(1);
        x.image(true);
        x.join(0);
        dueCuts(x, 0, 4, 1);
        due("undo", x.undo(), 5);
        dueCuts(x, 0, -1, 1, 4, -1, 1);
        dueOver(x, 0, 9);
        x.join(0);
        due("back", x.image(false), true);
        dueCuts(x, 0, -1, 1, 4, -1, 1);
        dueOver(x, 0, 9);
        x.size(12, 12);
        due("undo", x.undo(), 0);
        dueCuts(x, 0, -1, 1, 4, -1, 1);
        x.hide(0, true);
        x.join(1);
        dueCuts(x, 4, -1, 1);
        due("undo", x.undo(), 1);
        dueCuts(x, 0, -1, 1, 4, -1, 1);
        TornFringes y = Maps.allTorn();
        y.join(1);
        y.size(2, 2);
        due("undo", y.undo(), 2);
        due("all 80 again", y.joined(-1, 0), 80);
        due("the last", y.joined(79, 0), 130);
        due("its other", y.joined(78, 1), -1);
    }
}
