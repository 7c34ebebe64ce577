/** Terms 4, grades, loops, draws, texts, acts, the log, thought, the image: a test for each boundary case. */
public final class TermsMoreTest {
    private static final int MIN = Integer.MIN_VALUE;
    private static final int MAX = Integer.MAX_VALUE;
    private static final Checks checks = new Checks();

    private TermsMoreTest() {
    }

    public static void main(String[] args) {
        gradesAllFifty();
        gradesByMean();
        gradesWithoutNeighbours();
        gradesByFar();
        gradesByFarWithoutAny();
        loopsUnlike();
        loopsOverHidden();
        draws();
        noiseAtTheEnds();
        textOfTwoToTwelve();
        textSigns();
        textSignsThatCannotStand();
        textTooLong();
        textTooShort();
        textUnequal();
        textBytes();
        textIsAMapToldAnew();
        tapeFull();
        latestTwelveActs();
        eachAct();
        notActs();
        whatUndoLeaves();
        logOfSixty();
        logOfEachKind();
        inThought();
        imageAgainAndAgain();
        imageOfTheLog();
        imageOfNone();
        checks.end("TermsMoreTest");
    }

    private static void due(String call, long got, long want) {
        checks.due(call, got, want);
    }

    private static void due(String call, boolean got, boolean want) {
        checks.due(call, got, want);
    }

    private static void dueGrades(TornFringes x, int... grades) {
        for (int p = 0; p < grades.length; p++) {
            due("grade of " + p, x.pixel(p, 1), grades[p]);
        }
    }

    // ---- grades and loops ----

    private static void gradesAllFifty() {
        checks.about("how 0: all 50");
        TornFringes x = Maps.sized(2, 2);
        x.grade(0, 0);
        x.grade(1, 99);
        x.hide(3, true);
        due("sum", x.grades(0), 200);
        dueGrades(x, 50, 50, 50, 50);
        due("of the greatest map", Maps.sized(12, 12).grades(0), 7200);
    }

    private static void gradesByMean() {
        checks.about("how 1: 99 less the mean (downwards) of all STEPS to neighbours, 0 at least");
        // Steps 0-1 99, 2-3 99, the others 0: each mean 49 and a half.
        TornFringes x = Maps.of(2, 2, 0, 99, 0, 99);
        due("sum", x.grades(1), 200);
        dueGrades(x, 50, 50, 50, 50);
        // 0-1 100, 0-2 98: 99: just 0. 1 has 100: 0 at least. 2 has 98. 3 has 99.
        x = Maps.of(2, 2, 0, 100, -98, 0);
        due("sum", x.grades(1), 1);
        dueGrades(x, 0, 0, 1, 0);
        // 0-1 98 and 0-2 98; 1-3 0, 2-3: -98 less 98 is -196, 59: 3 has 29 and a half.
        x = Maps.of(2, 2, 0, 98, -98, 98);
        due("sum", x.grades(1), 1 + 50 + 21 + 70);
        dueGrades(x, 1, 50, 21, 70);
        // The greatest steps: 127 each.
        x = Maps.of(2, 2, 0, 127, -127, 0);
        due("sum", x.grades(1), 0);
        x = Maps.sized(12, 12);
        due("none", x.grades(1), 144 * 99);
        // Of a shut edge none, of a cut one it counts.
        x = Maps.of(2, 2, 0, 40, 10, 0);
        x.cut(0, true);
        due("sum", x.grades(1), 74 + 59 + 89 + 74);
        x.hide(1, true);
        due("sum", x.grades(1), 89 + 0 + 89 + 89);
        dueGrades(x, 89, 0, 89, 89);
    }

    private static void gradesWithoutNeighbours() {
        checks.about("how 1: without any: 0; HIDDEN ones have 0");
        TornFringes x = Maps.sized(2, 2);
        x.hide(1, true);
        x.hide(2, true);
        due("none beside one another", x.grades(1), 0);
        dueGrades(x, 0, 0, 0, 0);
        x.hide(0, true);
        x.hide(3, true);
        due("all hidden", x.grades(1), 0);
        due("all hidden", x.grades(2), 0);
        due("all hidden", x.grades(0), 200);
        TornFringes y = Maps.sized(3, 3);
        for (int p : new int[] {1, 3, 5, 7}) {
            y.hide(p, true);
        }
        due("corners and the midst", y.grades(1), 0);
        y.hide(1, false);
        due("0, 1, 2 and 4", y.grades(1), 4 * 99);
        dueGrades(y, 99, 99, 99, 0, 99, 0, 0, 0, 0);
    }

    private static void gradesByFar() {
        checks.about("how 2: 9 times how far the nearest TORN RING is from it, 99 at most");
        TornFringes x = Maps.vortices(12, 12, 1);
        x.grades(2);
        for (int p = 0; p < 144; p++) {
            due("grade of " + p, x.pixel(p, 1), Math.min(99, 9 * (p / 12 + p % 12)));
        }
        due("10 away", x.pixel(10, 1), 90);
        due("11 away", x.pixel(11, 1), 99);
        due("12 away", x.pixel(23, 1), 99);
        due("11 down", x.pixel(132, 1), 99);
        // The nearest of two; pixels of the last row and column, too.
        TornFringes y = Maps.vortices(12, 12, 1, -1 - 130);
        y.grades(2);
        for (int p = 0; p < 144; p++) {
            int one = p / 12 + p % 12;
            int other = Math.abs(p / 12 - 10) + Math.abs(p % 12 - 10);
            due("grade of " + p, y.pixel(p, 1), Math.min(99, 9 * Math.min(one, other)));
        }
        TornFringes z = Maps.allTorn();
        due("sum", z.grades(2), 22 * 9 + 18);
        due("a torn one", z.pixel(130, 1), 0);
        due("the last", z.pixel(143, 1), 18);
        // Torn ones as they are, not as they were joined.
        TornFringes w = Maps.pair();
        w.join(0);
        w.phase(5, 0);
        due("none torn", w.grades(2), 16 * 99);
    }

    private static void gradesByFarWithoutAny() {
        checks.about("how 2: without any 99 (by 1, 2 HIDDEN ones have 0)");
        TornFringes x = Maps.sized(2, 3);
        due("sum", x.grades(2), 6 * 99);
        x.hide(4, true);
        due("sum", x.grades(2), 5 * 99);
        dueGrades(x, 99, 99, 99, 99, 0, 99);
        TornFringes y = Maps.of(2, 2, 0, 64, -64, 127);
        due("torn", y.grades(2), 0 + 9 + 9 + 18);
        y.hide(3, true);
        due("torn no more", y.grades(2), 3 * 99);
        for (int how : new int[] {3, 4, -1, 256, 65536, MIN, MAX}) {
            due("another how", y.grades(how), -1);
        }
        dueGrades(y, 99, 99, 99, 0);
    }

    private static void loopsUnlike() {
        checks.about("LOOP of a rectangle (low row, high row, left, right column; unlike)");
        TornFringes x = Maps.sized(3, 5);
        for (int low = -1; low <= 5; low++) {
            for (int high = -1; high <= 5; high++) {
                for (int left = -1; left <= 5; left++) {
                    for (int right = -1; right <= 5; right++) {
                        boolean is = low >= 0 && low < high && high < 3 && left >= 0 && left < right && right < 5;
                        due("loop " + low + high + left + right, x.loop(low, high, left, right), is ? 0 : -1000);
                    }
                }
            }
        }
        int[][] none = {{MIN, 1, 0, 1}, {0, MAX, 0, 1}, {0, 1, MIN, 1}, {0, 1, 0, MAX}, {MIN, MAX, MIN, MAX},
            {MAX, MIN, MAX, MIN}, {MAX, MAX, 0, 1}, {0, 0, 0, 0}, {0, MIN, 0, 1}, {0, 1, 1, MIN}};
        for (int[] at : none) {
            due("loop", x.loop(at[0], at[1], at[2], at[3]), -1000);
        }
        TornFringes y = Maps.vortices(12, 12, 1 + 65, 1 + 66, 1 + 0, -1 - 130);
        due("the greatest", y.loop(0, 11, 0, 11), 2);
        due("without the first", y.loop(1, 11, 0, 11), 1);
        due("without the last", y.loop(0, 10, 0, 11), 3);
        due("without the last", y.loop(0, 11, 0, 10), 3);
        due("the least", y.loop(5, 6, 5, 6), 1);
        due("two", y.loop(5, 6, 5, 7), 2);
        due("the last", y.loop(10, 11, 10, 11), -1);
        due("none", y.loop(0, 11, 7, 9), 0);
    }

    private static void loopsOverHidden() {
        checks.about("LOOP: none, if one on it is HIDDEN");
        TornFringes x = Maps.vortices(5, 6, 1 + 8);
        for (int p = 0; p < 30; p++) {
            x.hide(p, true);
            int row = p / 6;
            int col = p % 6;
            boolean within = row >= 1 && row <= 3 && col >= 1 && col <= 4;
            boolean inside = row == 2 && (col == 2 || col == 3);
            due("hidden " + p, x.loop(1, 3, 1, 4), within && !inside ? -1000 : 1);
            boolean onRim = row == 0 || row == 4 || col == 0 || col == 5;
            due("hidden " + p + ", all round", x.loop(0, 4, 0, 5), onRim ? -1000 : 1);
            x.hide(p, false);
        }
        due("none hidden", x.loop(1, 3, 1, 4), 1);
    }

    // ---- draws ----

    /** From STATE 0 on, as each DRAW leaves it. */
    private static final int[] STATES = {0x3C6EF35F, 0x47502932, 0xD1CCF6E9, 0xAAF95334, 0x6252E503, 0x9F2EC686,
        0x57FE6C2D, 0xA3D95FA8, 0x81FDBEE7, 0x94F0AF1A};

    private static void draws() {
        checks.about("DRAW: STATE (an int, 0 at first) .. (ints, which wrap), its highest 24 bits (without sign)");
        TornFringes x = Maps.sized(3, 5);
        due("state at first", x.look(11), 0);
        int[] phases = new int[15];
        for (int i = 0; i < STATES.length; i += 2) {
            due("noise", x.noise(1), true);
            due("state", x.look(11), STATES[i + 1]);
            phases[(STATES[i] >>> 8) % 15] += (STATES[i + 1] >>> 8) % 65 - 32;
            for (int p = 0; p < 15; p++) {
                due("phase " + p, x.pixel(p, 0), phases[p]);
            }
        }
        // 0xD1CCF6 is 13749494, 14 modulo 15; 0xAAF953 is 11204947, 52 modulo 65.
        due("pixel 14", (STATES[2] >>> 8) % 15, 14);
        due("20 more", (STATES[3] >>> 8) % 65 - 32, 20);
        due("state", x.state(-1), 0x94F0AF1A);
        due("state", x.state(0), -1);
        due("five at once", x.noise(5), true);
        due("state", x.look(11), STATES[9]);
        TornFringes y = Maps.sized(2, 2);
        for (int v : new int[] {MIN, MAX, 0, -1, 1, MIN + 1}) {
            int was = y.look(11);
            due("state told", y.state(v), was);
            due("state", y.look(11), v);
            due("noise", y.noise(1), true);
            due("state", y.look(11), 1664525 * (1664525 * v + 1013904223) + 1013904223);
        }
    }

    private static void noiseAtTheEnds() {
        checks.about("NOISE n (1 .. 60)");
        TornFringes x = new TornFringes();
        for (int n : new int[] {0, -1, 61, 62, 256 + 5, 65536 + 5, MIN, MAX, MIN + 5}) {
            due("noise " + n, x.noise(n), false);
            due("no DRAW", x.look(11), 0);
            due("no act", x.look(12), 0);
        }
        due("least", x.noise(1), true);
        due("two draws", x.look(11), STATES[1]);
        due("greatest", x.noise(60), true);
        due("one act each", x.look(12), 2);
        int state = STATES[1];
        for (int i = 0; i < 120; i++) {
            state = 1664525 * state + 1013904223;
        }
        due("120 draws", x.look(11), state);
        // Hidden ones, too: all pixels are drawn from.
        TornFringes y = Maps.told("....;....");
        due("noise", y.noise(1), true);
        due("hidden 3", y.pixel(3, 0), -20);
    }

    // ---- texts ----

    private static void dueRight(String told, int rows, int cols) {
        TornFringes x = new TornFringes();
        Maps.tell(x, told);
        due("text " + told, x.text(), rows * cols);
        due("fault of " + told, x.fault(), -1);
        due("rows of " + told, x.look(0), rows);
        due("columns of " + told, x.look(1), cols);
        due("tape", x.look(13), 0);
        due("an act", x.look(12), 1);
    }

    private static void dueWrong(String told, int at) {
        TornFringes x = Maps.pair();
        Maps.flood(x);
        int acts = x.look(12);
        Maps.tell(x, told);
        due("text " + told, x.text(), -1);
        due("fault of " + told, x.fault(), at);
        due("tape", x.look(13), 0);
        due("no act", x.look(12), acts);
        due("the map stays", x.look(6), 16);
        due("the map stays", x.charge(0), 1);
    }

    private static void textOfTwoToTwelve() {
        checks.about("TEXT: 2 to 12 rows of 2 to 12");
        for (int rows = 0; rows <= 14; rows++) {
            for (int cols = 0; cols <= 14; cols++) {
                String told = Maps.rowsOf(rows, cols);
                if (told.length() <= 400 && rows >= 2 && rows <= 12 && cols >= 2 && cols <= 12) {
                    dueRight(told, rows, cols);
                } else if (told.length() <= 400) {
                    int at = rows == 0 ? 0 : cols > 12 ? 24 : rows == 1 ? 2 * cols : cols < 2 ? 2 * cols
                        : 12 * (2 * cols) + 11;
                    dueWrong(told, at);
                }
            }
        }
    }

    private static void textSigns() {
        checks.about("TEXT: two signs 0 .. 9, a .. f (that less 128, WRAPPED), or .. (HIDDEN, PHASE 0)");
        String signs = "0123456789abcdef";
        for (int high = 0; high < 16; high++) {
            StringBuilder told = new StringBuilder();
            for (int low = 0; low < 16; low++) {
                told.append(low == 8 ? ";" : "").append(signs.charAt(high)).append(signs.charAt(low));
            }
            TornFringes x = Maps.told(told.toString());
            for (int low = 0; low < 16; low++) {
                int phase = 16 * high + low - 128;
                due("phase of " + high + " " + low, x.pixel(low, 0), phase == -128 ? 127 : phase);
                due("hidden", x.pixel(low, 2), 0);
            }
        }
        TornFringes y = Maps.told("..00;ff..");
        int[] hidden = {1, 0, 0, 1};
        int[] phases = {0, 127, 127, 0};
        for (int p = 0; p < 4; p++) {
            due("hidden " + p, y.pixel(p, 2), hidden[p]);
            due("phase " + p, y.pixel(p, 0), phases[p]);
        }
        due("hidden", y.look(2), 2);
        y.hide(0, false);
        due("phase 0 all the same", y.pixel(0, 0), 0);
        // What was told of the pixels before does not stay.
        TornFringes z = Maps.of(2, 2, 9, 9, 9, 9);
        z.hide(1, true);
        Maps.tell(z, "..80;8080");
        due("text", z.text(), 4);
        due("phase", z.pixel(0, 0), 0);
        due("phase", z.pixel(1, 0), 0);
        due("hidden", z.pixel(1, 2), 0);
        due("hidden", z.pixel(0, 2), 1);
    }

    private static void textSignsThatCannotStand() {
        checks.about("TEXT, wrong at: a sign that can't stand there");
        String begun = "0000;0000";
        for (int sign = 0; sign < 256; sign++) {
            boolean digit = sign >= '0' && sign <= '9' || sign >= 'a' && sign <= 'f';
            String with = "00" + (char) sign + "0;0000";
            if (digit) {
                dueRight(with, 2, 2);
                dueRight("000" + (char) sign + ";0000", 2, 2);
                dueRight("0000;" + (char) sign + "000", 2, 2);
            } else {
                dueWrong(with, sign == '.' ? 3 : 2);
                dueWrong("000" + (char) sign + ";0000", 3);
                dueWrong("0000;" + (char) sign + "000", sign == '.' ? 6 : 5);
                dueWrong((char) sign + begun, sign == '.' ? 1 : 0);
                if (sign != ';') {
                    dueWrong(begun + (char) sign, sign == '.' ? 10 : 9);
                }
            }
        }
        // A . alone is no half of a pixel, and nothing else can be its second half.
        dueWrong(".000;0000", 1);
        dueWrong("0.00;0000", 1);
        dueWrong(".;00;0000", 1);
        dueWrong("...0;0000", 3);
        dueWrong("00...;0000", 5);
        dueWrong("....;...", 8);
        dueRight("....;....", 2, 2);
        // The first that can't be, of several.
        dueWrong("00gg;0", 2);
        dueWrong("0g;g", 1);
    }

    private static void textTooLong() {
        checks.about("TEXT, wrong at: the 25th sign of a row; the ; ahead of a 13th row");
        String row = "5a".repeat(12);
        dueRight(row + ";" + row, 2, 12);
        dueWrong(row + "5", 24);
        dueWrong(row + "5a;" + row, 24);
        dueWrong(row + ".", 24);
        dueWrong(row + "g", 24);
        dueWrong(row + ";" + row + "5", 49);
        dueWrong(row + ";" + row + ";" + row + "..", 74);
        // A shorter first row: the row is told wrong at its end, but not beyond its 24th sign.
        dueWrong("0000;" + row, 29);
        dueWrong("0000;" + row + ";", 29);
        dueWrong("0000;" + row + "00", 29);
        dueRight(Maps.rowsOf(12, 2), 12, 2);
        dueWrong(Maps.rowsOf(12, 2) + ";", 59);
        dueWrong(Maps.rowsOf(12, 2) + ";5a5a", 59);
        dueWrong(Maps.rowsOf(13, 2), 59);
        dueWrong(Maps.rowsOf(12, 2) + "5", 60);
        dueWrong(Maps.rowsOf(12, 2) + "5a", 61);
        dueRight(Maps.rowsOf(12, 12), 12, 12);
        dueWrong(Maps.rowsOf(12, 12) + ";", 299);
        dueWrong(Maps.rowsOf(12, 12) + "0", 299);
    }

    private static void textTooShort() {
        checks.about("TEXT, wrong at: the ; (or the end) of a row that has too few; the end, if more must come");
        dueWrong("", 0);
        dueWrong(";", 0);
        dueWrong("0", 1);
        dueWrong("00", 2);
        dueWrong("000", 3);
        dueWrong("00;00", 2);
        dueWrong("0;", 1);
        dueWrong("000;0000", 3);
        dueWrong("0000", 4);
        dueWrong("00000000", 8);
        dueWrong("0000;", 5);
        dueWrong("0000;0", 6);
        dueWrong("0000;00", 7);
        dueWrong("0000;000", 8);
        dueWrong("0000;;0000", 5);
        dueWrong("0000;00;0000", 7);
        dueWrong("0000;0000;", 10);
        dueWrong("0000;0000;0", 11);
        dueWrong("..", 2);
        dueWrong("....;..", 7);
    }

    private static void textUnequal() {
        checks.about("TEXT, wrong at: the ; (or the end) of a row that has another number than the first");
        dueWrong("0000;000000", 11);
        dueWrong("0000;00000", 10);
        dueWrong("0000;000000;0000", 11);
        dueWrong("000000;0000", 11);
        dueWrong("000000;0000;000000", 11);
        dueWrong("000000;00000;000000", 12);
        dueWrong("0000;0000;000000", 16);
        dueWrong("0000;0000;00", 12);
        dueRight("000000;000000", 2, 3);
    }

    private static void textBytes() {
        checks.about("Twenty bytes come behind THE TAPE, four of each number, the highest first");
        TornFringes x = new TornFringes();
        // "0180;fe.." and ";9a7f;..00" as numbers: 20 bytes but for the end.
        due("feed", x.feed(0x30313830, 0x3b66652e, 0x2e3b3961, 0x37663b2e, 0x2e303030), 20);
        due("end", x.end(19), true);
        due("text", x.text(), 8);
        int[] phases = {-127, 0, 126, 0, 26, -1, 0, 127};
        for (int p = 0; p < 8; p++) {
            due("phase " + p, x.pixel(p, 0), phases[p]);
        }
        // Bytes with their highest bit set are signs of their own, and can't stand anywhere.
        for (int at = 0; at < 9; at++) {
            int[] v = {0x30303030, 0x3b303030, 0x30000000, 0, 0};
            v[at / 4] |= 0x80 << 24 - at % 4 * 8;
            due("feed", x.feed(v[0], v[1], v[2], v[3], v[4]), 20);
            due("end", x.end(9), true);
            due("text", x.text(), -1);
            due("fault", x.fault(), at);
        }
        due("ends of the ints", x.feed(MIN, MAX, -1, 0, 1), 20);
        due("text", x.text(), -1);
        due("fault", x.fault(), 0);
    }

    private static void textIsAMapToldAnew() {
        checks.about("All GRADES are 50 then, no JOINING, no CUTS by HAND");
        TornFringes x = Maps.pair();
        x.grades(2);
        x.join(0);
        x.cut(0, true);
        x.state(5);
        int lines = x.look(14);
        Maps.tell(x, "0180;fe..;9a7f;..00");
        due("text", x.text(), 8);
        for (int p = 0; p < 8; p++) {
            due("grade " + p, x.pixel(p, 1), 50);
        }
        due("no cuts", x.look(5), 0);
        due("no joining", x.joined(-1, 0), 0);
        due("no fars", x.look(15), 0);
        due("STATE stays", x.look(11), 5);
        due("THE LOG stays", x.look(14), lines);
        due("undo", x.undo() >= 0, true);
        due("joined", x.joined(0, 1), 4);
        due("by hand", x.edge(0, 3), 1);
        due("rows", x.look(0), 4);
    }

    private static void tapeFull() {
        checks.about("THE TAPE (400 bytes at most)");
        TornFringes x = new TornFringes();
        for (int i = 1; i <= 20; i++) {
            due("feed", x.feed(-1, -1, -1, -1, -1), 20 * i);
        }
        for (int i = 0; i < 3; i++) {
            due("full", x.feed(0, 0, 0, 0, 0), -1);
            due("bytes", x.look(13), 400);
        }
        due("one too many", x.end(401), false);
        due("just", x.end(400), true);
        due("one less", x.end(399), true);
        due("19 too many", x.feed(0, 0, 0, 0, 0), -1);
        due("not again", x.end(400), false);
        due("one too many", x.end(381), true);
        due("by 1", x.feed(0, 0, 0, 0, 0), -1);
        due("none came", x.look(13), 381);
        due("just", x.end(380), true);
        due("just", x.feed(0, 0, 0, 0, 0), 400);
        for (int n : new int[] {-1, MIN, MAX, 401}) {
            due("end " + n, x.end(n), false);
        }
        due("text", x.text(), -1);
        due("empty then", x.look(13), 0);
        due("empty", x.end(0), true);
        due("none", x.end(1), false);
        due("again", x.feed(0, 0, 0, 0, 0), 20);
        // A full tape can be a map's text no more: 299 signs at most.
        TornFringes y = new TornFringes();
        Maps.tell(y, Maps.rowsOf(12, 12));
        Maps.tell(y, "0".repeat(100));
        due("bytes", y.look(13), 399);
        due("text", y.text(), -1);
        due("fault", y.fault(), 299);
    }

    // ---- acts ----

    private static void latestTwelveActs() {
        checks.about("ACTS that can be UNDONE (the latest 12)");
        TornFringes x = new TornFringes();
        for (int i = 1; i <= 40; i++) {
            due("phase", x.phase(0, i), i);
            due("acts", x.look(12), Math.min(12, i));
        }
        for (int i = 11; i >= 0; i--) {
            due("undo", x.undo(), i);
            due("phase", x.pixel(0, 0), 28 + i);
            due("acts", x.look(12), i);
        }
        for (int i = 0; i < 3; i++) {
            due("none", x.undo(), -1);
            due("phase", x.pixel(0, 0), 28);
            due("acts", x.look(12), 0);
        }
        // Undone and done again, over and over.
        for (int i = 1; i <= 30; i++) {
            x.phase(1, i);
            x.phase(1, i + 50);
            due("undo", x.undo(), Math.min(12, i + 1) - 1);
            due("phase", x.pixel(1, 0), i);
        }
        due("acts", x.look(12), 11);
    }

    /** Done and undone, all is as it was ahead; then it is done again. */
    private static void dueUndone(TornFringes x, String what, Runnable act) {
        int acts = x.look(12);
        Everything ahead = Everything.ofMap(x);
        act.run();
        int withIt = Math.min(12, acts + 1);
        due(what + ": an act", x.look(12), withIt);
        int state = x.look(11);
        int lines = x.look(14);
        due(what + ": undo", x.undo(), withIt - 1);
        checks.same(what + ": as it was ahead", ahead, Everything.ofMap(x));
        due(what + ": STATE stays", x.look(11), state);
        due(what + ": acts", x.look(12), withIt - 1);
        due(what + ": a line", x.look(14), lines + 1);
        dueLine(x, 4, withIt - 1, 0);
        act.run();
    }

    private static void eachAct() {
        checks.about("phase(), hide(), ramp(), noise(), grade() (a PIXEL's or all), join(), cut(), lift(), ..");
        TornFringes x = Maps.pair();
        Maps.flood(x);
        dueUndone(x, "lift", () -> x.lift(0, 3));
        dueUndone(x, "settle", x::settle);
        dueUndone(x, "grade", () -> x.grade(3, 3));
        for (int how = 0; how < 3; how++) {
            int by = how;
            dueUndone(x, "grades", () -> x.grades(by));
        }
        dueUndone(x, "phase", () -> x.phase(3, 3));
        dueUndone(x, "hide", () -> x.hide(3, true));
        dueUndone(x, "ramp", () -> x.ramp(3, 3));
        dueUndone(x, "noise", () -> x.noise(3));
        dueUndone(x, "join", () -> x.join(0));
        dueUndone(x, "cut", () -> x.cut(3, true));
        dueUndone(x, "text", () -> {
            Maps.tell(x, "0000;0000");
            x.text();
        });
        dueUndone(x, "size", () -> x.size(5, 6));
    }

    private static void notActs() {
        checks.about("begin(), step() aren't ACTS (UNDONE sets what is LAID, too, to what was ahead of the ACT)");
        TornFringes x = Maps.pair();
        int acts = x.look(12);
        x.begin();
        x.step(3);
        x.state(3);
        x.feed(1, 2, 3, 4, 5);
        x.end(3);
        x.text();
        x.image(true);
        x.would(0, 0);
        x.apart(0);
        due("no acts", x.look(12), acts);
        x.lift(0, 1);
        x.begin();
        x.step(9);
        due("laid", x.look(6), 9);
        due("undo", x.undo(), acts);
        due("laid as ahead of it", x.look(6), 3);
        due("height", x.height(0), 0);
        due("flooding", x.look(8), 1);
        due("goes on", x.step(144), 13);
        x.lift(0, 1);
        x.begin();
        due("flooding", x.look(8), 1);
        due("undo", x.undo(), acts);
        due("not flooding", x.look(8), 0);
        due("laid", x.look(6), 16);
        // An act on nothing laid: undone, nothing is laid again.
        TornFringes y = new TornFringes();
        y.grade(0, 5);
        Maps.flood(y);
        due("undo", y.undo(), 0);
        due("nothing laid", y.look(6), 0);
        due("not flooding", y.look(8), 0);
    }

    private static void whatUndoLeaves() {
        checks.about("all is as it was ahead (but STATE, THE TAPE, fault(), THE LOG, THE IMAGE)");
        TornFringes x = Maps.pair();
        x.feed(0, 0, 0, 0, 0);
        x.text();
        due("fault", x.fault(), 0);
        x.feed(0x30303030, 0, 0, 0, 0);
        x.end(4);
        x.state(7);
        x.image(true);
        x.join(0);
        x.noise(1);
        int state = x.look(11);
        due("undo", x.undo() >= 0, true);
        due("undo", x.undo() >= 0, true);
        due("STATE", x.look(11), state);
        due("THE TAPE", x.look(13), 4);
        due("fault", x.fault(), 0);
        due("THE LOG", x.look(14), 3);
        due("a line", x.log(2, 0), 0);
        due("THE IMAGE", x.image(false), true);
        due("of before", x.look(11), 7);
    }

    // ---- the log, thought, the image ----

    private static void logOfSixty() {
        checks.about("THE LOG (60 lines, the latest)");
        for (int lines = 1; lines <= 130; lines++) {
            TornFringes x = logged(lines);
            due("lines", x.look(14), lines);
            due("the latest", x.log(0, 2), lines == 1 ? 0 : lines);
            int oldest = Math.min(lines, 60) - 1;
            due("the oldest", x.log(oldest, 2), lines <= 60 ? 0 : lines - 59);
            due("what it was", x.log(oldest, 0), lines <= 60 ? 1 : 3);
            due("no older one", x.log(oldest + 1, 0), -100000000);
        }
    }

    /** An object whose lines are an island's, and then lifts by 2, 3, .., so many lines in all. */
    private static TornFringes logged(int lines) {
        TornFringes x = new TornFringes();
        x.begin();
        x.step(1);
        for (int i = 2; i <= lines; i++) {
            x.lift(0, i);
        }
        return x;
    }

    private static void logOfEachKind() {
        checks.about("THE LOG: what, two numbers");
        TornFringes x = Maps.pair();
        x.join(1);
        dueLine(x, 0, 2, 2);
        x.begin();
        x.step(1);
        dueLine(x, 1, 0, 0);
        x.step(144);
        dueLine(x, 2, 1, 0);
        x.lift(0, -5);
        dueLine(x, 3, 0, -5);
        x.settle();
        dueLine(x, 5, 1, 1);
        x.undo();
        dueLine(x, 4, 6, 0);
        due("lines", x.look(14), 6);
        for (int what : new int[] {-1, 3, 4, MIN, MAX}) {
            due("another what", x.log(0, what), -100000000);
        }
        for (int i : new int[] {-1, 6, 7, 59, 60, 61, MIN, MAX}) {
            due("no line " + i, x.log(i, 0), -100000000);
        }
    }

    private static void dueLine(TornFringes x, int what, int first, int second) {
        due("what", x.log(0, 0), what);
        due("first", x.log(0, 1), first);
        due("second", x.log(0, 2), second);
    }

    private static void inThought() {
        checks.about("IN THOUGHT (nothing of it stays)");
        for (int moves = 0; moves <= 144; moves += 72) {
            TornFringes x = Maps.pair();
            x.join(1);
            x.cut(20, true);
            x.begin();
            if (moves > 0) {
                x.step(moves / 9);
            }
            Everything before = Everything.of(x);
            for (int manner = -1; manner <= 2; manner++) {
                for (int what = -1; what <= 5; what++) {
                    x.would(manner, what);
                }
            }
            for (int e = -1; e <= 32; e++) {
                x.apart(e);
            }
            checks.same("after " + moves / 9 + " moves", x, before);
            due("goes on", x.begin(), 16);
        }
    }

    private static void imageAgainAndAgain() {
        checks.about("THE IMAGE: as it was when it was taken; gone back to it may be more than once");
        TornFringes x = Maps.pair();
        x.state(9);
        x.join(0);
        x.grades(1);
        x.cut(3, true);
        x.begin();
        x.step(7);
        x.lift(0, 4);
        x.undo();
        due("taken", x.image(true), true);
        due("acts stay", x.look(12) > 0, true);
        for (int i = 1; i < x.look(12); i++) {
            x.undo();
        }
        due("back", x.image(false), true);
        due("no acts", x.look(12), 0);
        due("none", x.undo(), -1);
        Everything taken = Everything.of(x);
        for (int i = 0; i < 4; i++) {
            x.size(2 + i, 12);
            x.noise(60);
            x.join(1);
            Maps.flood(x);
            x.settle();
            x.state(i);
            due("back", x.image(false), true);
            checks.same("time " + i, x, taken);
            due("goes on", x.step(2), 2);
        }
        due("back", x.image(false), true);
        due("back at once again", x.image(false), true);
        checks.same("as taken", x, taken);
        // THE TAPE and fault() are not of it.
        x.feed(0, 0, 0, 0, 0);
        x.text();
        x.feed(0, 0, 0, 0, 0);
        due("back", x.image(false), true);
        due("tape", x.look(13), 20);
        due("fault", x.fault(), 0);
        // Acts done after it was gone back to can be undone, up to it.
        x.phase(0, 1);
        x.phase(0, 2);
        due("undo", x.undo(), 1);
        due("undo", x.undo(), 0);
        due("no more", x.undo(), -1);
        due("laid as taken", x.look(6), 7);
    }

    private static void imageOfTheLog() {
        checks.about("THE IMAGE: all that is and was told, THE LOG, too");
        for (int taken : new int[] {1, 30, 59, 60, 61, 90}) {
            TornFringes x = logged(taken);
            x.image(true);
            Everything before = Everything.of(x);
            for (int i = 0; i < 75; i++) {
                x.lift(0, 1000);
            }
            due("lines", x.look(14), taken + 75);
            due("back", x.image(false), true);
            due("lines", x.look(14), taken);
            for (int i = 0; i < Math.min(60, taken - 1); i++) {
                due("line " + i, x.log(i, 2), taken - i);
            }
            x.lift(0, 5);
            due("a line more", x.look(14), taken + 1);
            due("it", x.log(0, 2), 5);
            due("the one before", x.log(1, 2), taken == 1 ? 0 : taken);
            x.image(false);
            for (int i = 0; i < Math.min(12, taken - 1); i++) {
                x.grade(0, 50);
            }
            checks.same("as taken, " + taken, x, before);
        }
    }

    private static void imageOfNone() {
        checks.about("true; false if there is none");
        TornFringes x = Maps.pair();
        Maps.flood(x);
        Everything before = Everything.of(x);
        due("none", x.image(false), false);
        due("none", x.image(false), false);
        checks.same("nothing is done", x, before);
        due("taken", x.image(true), true);
        checks.same("taking it does nothing else", x, before);
        due("undo", x.undo() >= 0, true);
    }
}
