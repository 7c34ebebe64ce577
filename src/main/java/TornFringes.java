import java.util.Arrays;

/** Heights of a map of which only what is left of whole turns is known: see ../shared/DOC.md. */
public final class TornFringes {
    public static final int NONE = -1;

    private static final int TURN = 255;
    private static final int HALF_TURN = 127;
    private static final int LEAST_SIDE = 2;
    private static final int MOST_SIDE = 12;
    private static final int FIRST_SIDE = 4;
    private static final int MOST_PIXELS = 144;
    private static final int MOST_EDGES = 288;
    private static final int MOST_RINGS = 121;
    private static final int FIRST_GRADE = 50;
    private static final int MOST_GRADE = 99;
    private static final int MOST_SLOPE = 999;
    private static final int MOST_DRAWS = 60;
    private static final int MOST_ACTS = 12;
    private static final int MOST_LINES = 60;
    private static final int MOST_BYTES = 400;
    private static final int FED_BYTES = 20;

    private static final int NOT_SO = NONE - 999;
    private static final int FAR_FROM_SO = NONE - 99999999;
    private static final int NO_FIT = NONE - 999999999;
    private static final long NO_SUM = NONE - 999999999999L;
    // Its square is the greatest one that is a long.
    private static final long MOST_ROOT = 3037000499L;

    private static final int LEAST = 0;
    private static final int NEAREST = 1;

    private static final int LOG_JOINED = 0;
    private static final int LOG_ISLAND = 1;
    private static final int LOG_END = 2;
    private static final int LOG_LIFTED = 3;
    private static final int LOG_UNDONE = 4;
    private static final int LOG_SETTLED = 5;

    private final Whole now;
    // It shares the chart of now, so that what is told counts there, too.
    private final Whole thought;
    private final Acts acts;
    private final Log lines;
    private final Tape tape;
    private final Pairing pairing;
    private final Front front;
    private final Seams seams;
    private final Areas patches;
    private int drawn;
    private int wrongAt;
    private Whole imageOfWhole;
    private Log imageOfLines;
    private int imageOfDrawn;

    public TornFringes() {
        now = new Whole(new Chart());
        thought = new Whole(now.chart);
        acts = new Acts();
        lines = new Log();
        tape = new Tape();
        pairing = new Pairing();
        front = new Front();
        seams = new Seams();
        patches = new Areas();
        wrongAt = NONE;
    }

    // ---- what is told ----

    public boolean size(int r, int c) {
        if (!isSide(r) || !isSide(c)) {
            return false;
        }
        acts.keep(now);
        now.tellMap(r, c);
        return true;
    }

    public int phase(int pixel, int v) {
        if (!now.chart.hasPixel(pixel)) {
            return NOT_SO;
        }
        acts.keep(now);
        now.chart.phases[pixel] = Chart.wrapped(v);
        now.lay.clear();
        return now.chart.phases[pixel];
    }

    public boolean hide(int pixel, boolean is) {
        if (!now.chart.hasPixel(pixel) || now.chart.hidden[pixel] == is) {
            return false;
        }
        acts.keep(now);
        now.chart.hidden[pixel] = is;
        now.lay.clear();
        return true;
    }

    public boolean grade(int pixel, int v) {
        if (!now.chart.hasPixel(pixel) || v < 0 || v > MOST_GRADE) {
            return false;
        }
        acts.keep(now);
        now.chart.grades[pixel] = v;
        return true;
    }

    public int grades(int how) {
        if (how < 0 || how > 2) {
            return NONE;
        }
        acts.keep(now);
        if (how == 2) {
            pairing.findTorn(now.chart);
        }
        int sum = 0;
        for (int p = 0; p < now.chart.pixels(); p++) {
            now.chart.grades[p] = gradeBy(how, p);
            sum += now.chart.grades[p];
        }
        return sum;
    }

    public boolean ramp(int a, int b) {
        if (a < -MOST_SLOPE || a > MOST_SLOPE || b < -MOST_SLOPE || b > MOST_SLOPE) {
            return false;
        }
        acts.keep(now);
        Chart chart = now.chart;
        for (int p = 0; p < chart.pixels(); p++) {
            chart.phases[p] = Chart.wrapped(chart.phases[p] + a * chart.rowOf(p) + b * chart.colOf(p));
        }
        now.lay.clear();
        return true;
    }

    public boolean noise(int n) {
        if (n < 1 || n > MOST_DRAWS) {
            return false;
        }
        acts.keep(now);
        for (int i = 0; i < n; i++) {
            int p = draw(now.chart.pixels());
            int more = draw(65) - 32;
            now.chart.phases[p] = Chart.wrapped(now.chart.phases[p] + more);
        }
        now.lay.clear();
        return true;
    }

    public int state(int v) {
        int was = drawn;
        drawn = v;
        return was;
    }

    // ---- cuts ----

    public int join(int manner) {
        if (!pairing.canPair(now.chart, manner)) {
            return NONE;
        }
        acts.keep(now);
        pairing.pair(now.chart, manner);
        pairing.tell(now.chart, now.joining);
        now.lay.clear();
        lines.note(LOG_JOINED, pairing.count, now.joining.fars);
        return now.joining.fars;
    }

    public boolean cut(int edge, boolean is) {
        if (!now.chart.hasEdge(edge) || now.chart.byHand[edge] == is) {
            return false;
        }
        acts.keep(now);
        now.chart.byHand[edge] = is;
        now.lay.clear();
        return true;
    }

    // ---- the flood and its islands ----

    public int begin() {
        now.lay.start(now.chart);
        return now.lay.awaited;
    }

    public int step(int n) {
        if (n < 1 || n > MOST_PIXELS || !now.lay.flooding) {
            return NONE;
        }
        front.bar(now);
        front.gather(now);
        int moves = 0;
        while (moves < n && now.lay.flooding) {
            int isles = now.lay.isleCount;
            now.lay.advance(now.chart, front);
            moves++;
            if (now.lay.isleCount > isles) {
                lines.note(LOG_ISLAND, isles, now.lay.starts[isles]);
            }
        }
        if (!now.lay.flooding) {
            lines.note(LOG_END, now.lay.isleCount, now.countJumps());
        }
        return moves;
    }

    public boolean lift(int island, int turns) {
        if (!now.lay.hasIsle(island) || !now.lay.canLift(now.chart, island, turns)) {
            return false;
        }
        acts.keep(now);
        now.lay.raise(now.chart, island, turns);
        lines.note(LOG_LIFTED, island, turns);
        return true;
    }

    public int settle() {
        // In thought first: should a height not be an int, nothing is done.
        thought.lay.copyFrom(now.lay);
        int left = seams.uniteAll(thought.chart, thought.lay);
        if (left == NONE) {
            return NONE;
        }
        acts.keep(now);
        now.lay.copyFrom(thought.lay);
        lines.note(LOG_SETTLED, left, now.lay.isleCount);
        return left;
    }

    // ---- the tape ----

    public int feed(int a, int b, int c, int d, int e) {
        if (tape.length + FED_BYTES > MOST_BYTES) {
            return NONE;
        }
        tape.add(a);
        tape.add(b);
        tape.add(c);
        tape.add(d);
        tape.add(e);
        return tape.length;
    }

    public boolean end(int n) {
        if (n < 0 || n > tape.length) {
            return false;
        }
        tape.length = n;
        return true;
    }

    public int text() {
        wrongAt = tape.findFault();
        if (wrongAt == NONE) {
            acts.keep(now);
            now.tellMap(tape.rows, tape.cols);
            tape.tell(now.chart);
        }
        tape.length = 0;
        return wrongAt == NONE ? now.chart.pixels() : NONE;
    }

    public int fault() {
        return wrongAt;
    }

    // ---- what is asked of the map ----

    public int pixel(int pixel, int what) {
        if (!now.chart.hasPixel(pixel)) {
            return NOT_SO;
        }
        boolean isLaid = now.lay.isLaid(pixel);
        switch (what) {
            case 0:
                return now.chart.phases[pixel];
            case 1:
                return now.chart.grades[pixel];
            case 2:
                return now.chart.hidden[pixel] ? 1 : 0;
            case 3:
                return isLaid ? 1 : 0;
            case 4:
                return isLaid ? now.lay.froms[pixel] : NONE;
            case 5:
                return now.lay.isles[pixel];
            case 6:
                return now.lay.depthOf(pixel);
            case 7:
                return isLaid ? now.lay.moves[pixel] : 0;
            default:
                return NOT_SO;
        }
    }

    public int height(int pixel) {
        if (!now.chart.hasPixel(pixel) || !now.lay.isLaid(pixel)) {
            return FAR_FROM_SO;
        }
        return now.lay.heights[pixel];
    }

    public int edge(int edge, int what) {
        Chart chart = now.chart;
        if (!chart.hasEdge(edge)) {
            return NOT_SO;
        }
        switch (what) {
            case 0:
                return chart.stepOver(edge);
            case 1:
                return chart.isShut(edge) ? 1 : 0;
            case 2:
                return now.joining.over[edge];
            case 3:
                return chart.byHand[edge] ? 1 : 0;
            case 4:
                return now.isJump(edge) ? 1 : 0;
            case 5:
                return now.isTear(edge) ? 1 : 0;
            case 6:
                return Math.min(chart.grades[chart.tail(edge)], chart.grades[chart.tip(edge)]);
            default:
                return NOT_SO;
        }
    }

    public int charge(int ring) {
        return now.chart.hasRing(ring) ? now.chart.chargeOf(ring) : NOT_SO;
    }

    public int torn(int i) {
        pairing.findTorn(now.chart);
        if (i == NONE) {
            return pairing.count;
        }
        return i >= 0 && i < pairing.count ? pairing.rings[i] : NONE;
    }

    public int far(int ring, int other) {
        if (!now.chart.hasRing(ring)) {
            return NONE;
        }
        if (other == NONE) {
            return now.chart.farToBorder(ring);
        }
        return now.chart.hasRing(other) ? now.chart.farBetween(ring, other) : NONE;
    }

    public int joined(int i, int what) {
        Joining joining = now.joining;
        if (i == NONE) {
            return joining.count;
        }
        if (i < 0 || i >= joining.count) {
            return NOT_SO;
        }
        switch (what) {
            case 0:
                return joining.firsts[i];
            case 1:
                return joining.others[i];
            case 2:
                return now.chart.farOf(joining.firsts[i], joining.others[i]);
            default:
                return NOT_SO;
        }
    }

    public int loop(int low, int high, int left, int right) {
        Chart chart = now.chart;
        if (low < 0 || high >= chart.rows || low >= high) {
            return NOT_SO;
        }
        if (left < 0 || right >= chart.cols || left >= right) {
            return NOT_SO;
        }
        if (chart.hidesOnLoop(low, high, left, right)) {
            return NOT_SO;
        }
        return chart.stepsRound(low, high, left, right) / TURN;
    }

    // ---- what is asked of islands and heights ----

    public int island(int island, int what) {
        if (!now.lay.hasIsle(island)) {
            return NONE;
        }
        switch (what) {
            case 0:
                return now.lay.starts[island];
            case 1:
                return now.lay.pixelsOf(now.chart, island);
            case 2:
                return now.lay.turns[island];
            case 3:
                return now.edgesOutOf(island);
            default:
                return NONE;
        }
    }

    public int fit(int i, int j, int what) {
        if (!now.lay.hasIsle(i) || !now.lay.hasIsle(j) || i == j) {
            return NO_FIT;
        }
        seams.gather(now.chart, now.lay);
        seams.findFit(i, j);
        if (seams.fitEdges == NONE || what < 0 || what > 1) {
            return NO_FIT;
        }
        return what == 0 ? seams.fitTurns : seams.fitEdges;
    }

    public long sum(int island) {
        if (!now.lay.hasIsle(island)) {
            return NO_SUM;
        }
        long sum = 0;
        for (int p = 0; p < now.chart.pixels(); p++) {
            if (now.lay.isles[p] == island) {
                sum += now.lay.heights[p];
            }
        }
        return sum;
    }

    public long power(int level, long times) {
        if (times < 0) {
            return NONE;
        }
        long squares = now.lay.squareSum(now.chart, level);
        if (squares < 0) {
            return NONE;
        }
        if (squares > 0 && times > Long.MAX_VALUE / squares) {
            return NONE;
        }
        return squares * times;
    }

    public int range(int what) {
        int least = now.lay.lowest(now.chart);
        int most = now.lay.highest(now.chart);
        if (least == NONE || most == NONE) {
            return FAR_FROM_SO;
        }
        switch (what) {
            case 0:
                return now.lay.heights[least];
            case 1:
                return now.lay.heights[most];
            case 2:
                return least;
            case 3:
                return most;
            default:
                return FAR_FROM_SO;
        }
    }

    public int between(int low, int high) {
        int count = 0;
        for (int p = 0; p < now.chart.pixels(); p++) {
            if (now.lay.isLaid(p) && now.lay.heights[p] >= low && now.lay.heights[p] <= high) {
                count++;
            }
        }
        return count;
    }

    public int areas(int level, int what) {
        if (what < 0 || what > 2) {
            return NOT_SO;
        }
        patches.find(now.chart, now.lay, level);
        if (what == 0) {
            return patches.count;
        }
        return what == 1 ? patches.most : patches.leastPixel;
    }

    public int peak(int i) {
        int count = 0;
        for (int p = 0; p < now.chart.pixels(); p++) {
            if (now.lay.isPeak(now.chart, p)) {
                if (count == i) {
                    return p;
                }
                count++;
            }
        }
        return i == NONE ? count : NONE;
    }

    public int way(int pixel, int i) {
        if (!now.chart.hasPixel(pixel) || i < 0 || i > now.lay.depthOf(pixel)) {
            return NONE;
        }
        int p = pixel;
        for (int k = 0; k < i && p != NONE; k++) {
            p = now.lay.froms[p];
        }
        return p;
    }

    // ---- in thought ----

    public int would(int manner, int what) {
        if (what < 0 || what > 4 || !pairing.canPair(now.chart, manner)) {
            return NONE;
        }
        pairing.pair(now.chart, manner);
        pairing.tell(now.chart, thought.joining);
        if (what == 3) {
            return thought.joining.fars;
        }
        front.bar(thought);
        floodInThought();
        switch (what) {
            case 0:
                return thought.lay.isleCount;
            case 1:
                return thought.countJumps();
            case 2:
                return thought.countTears();
            default:
                return now.lay.otherHeights(now.chart, thought.lay);
        }
    }

    public int apart(int edge) {
        if (!now.chart.hasEdge(edge)) {
            return NONE;
        }
        front.bar(now);
        front.barred[edge] = true;
        floodInThought();
        return thought.lay.isleCount;
    }

    // ---- acts, the log, the image ----

    public int undo() {
        if (!acts.takeBack(now)) {
            return NONE;
        }
        lines.note(LOG_UNDONE, acts.count, 0);
        return acts.count;
    }

    public int log(int i, int what) {
        if (!lines.has(i) || what < 0 || what > 2) {
            return FAR_FROM_SO;
        }
        return lines.get(i, what);
    }

    public boolean image(boolean taken) {
        if (taken) {
            takeImage();
            return true;
        }
        if (imageOfWhole == null || imageOfLines == null) {
            return false;
        }
        now.copyFrom(imageOfWhole);
        lines.copyFrom(imageOfLines);
        drawn = imageOfDrawn;
        acts.count = 0;
        return true;
    }

    public int look(int what) {
        switch (what) {
            case 0:
                return now.chart.rows;
            case 1:
                return now.chart.cols;
            case 2:
                return now.chart.countHidden();
            case 3:
                return torn(NONE);
            case 4:
                return now.chart.chargesTogether();
            case 5:
                return now.countCut();
            case 6:
                return now.lay.laid;
            case 7:
                return now.lay.isleCount;
            case 8:
                return now.lay.flooding ? 1 : 0;
            case 9:
                return now.countJumps();
            case 10:
                return now.countTears();
            case 11:
                return drawn;
            case 12:
                return acts.count;
            case 13:
                return tape.length;
            case 14:
                return lines.total;
            case 15:
                return now.joining.fars;
            default:
                return FAR_FROM_SO;
        }
    }

    // ---- helpers of the face ----

    private static boolean isSide(int n) {
        return n >= LEAST_SIDE && n <= MOST_SIDE;
    }

    private int draw(int m) {
        drawn = drawn * 1664525 + 1013904223;
        return m > 0 ? (drawn >>> 8) % m : 0;
    }

    private int gradeBy(int how, int p) {
        if (how == 0) {
            return FIRST_GRADE;
        }
        if (now.chart.hidden[p]) {
            return 0;
        }
        if (how == 1) {
            return now.chart.gradeBySteps(p);
        }
        return Math.min(MOST_GRADE, 9 * pairing.farToTorn(now.chart, p));
    }

    private void floodInThought() {
        thought.lay.start(thought.chart);
        front.gather(thought);
        for (int i = 0; i < MOST_PIXELS && thought.lay.flooding; i++) {
            thought.lay.advance(thought.chart, front);
        }
    }

    private void takeImage() {
        if (imageOfWhole == null) {
            imageOfWhole = new Whole(new Chart());
        }
        if (imageOfLines == null) {
            imageOfLines = new Log();
        }
        imageOfWhole.copyFrom(now);
        imageOfLines.copyFrom(lines);
        imageOfDrawn = drawn;
    }

    /** The map as it was told: phases, grades, what is hidden, cuts by hand. */
    private static final class Chart {
        static final int SIDES = 4;
        private static final int UP = 0;
        private static final int LEFT = 1;
        private static final int RIGHT = 2;

        int rows;
        int cols;
        final int[] phases;
        final int[] grades;
        final boolean[] hidden;
        final boolean[] byHand;

        Chart() {
            phases = new int[MOST_PIXELS];
            grades = new int[MOST_PIXELS];
            hidden = new boolean[MOST_PIXELS];
            byHand = new boolean[MOST_EDGES];
            reset(FIRST_SIDE, FIRST_SIDE);
        }

        void reset(int r, int c) {
            rows = r;
            cols = c;
            for (int p = 0; p < MOST_PIXELS; p++) {
                phases[p] = 0;
                grades[p] = FIRST_GRADE;
                hidden[p] = false;
            }
            for (int e = 0; e < MOST_EDGES; e++) {
                byHand[e] = false;
            }
        }

        void copyFrom(Chart from) {
            rows = from.rows;
            cols = from.cols;
            System.arraycopy(from.phases, 0, phases, 0, MOST_PIXELS);
            System.arraycopy(from.grades, 0, grades, 0, MOST_PIXELS);
            System.arraycopy(from.hidden, 0, hidden, 0, MOST_PIXELS);
            System.arraycopy(from.byHand, 0, byHand, 0, MOST_EDGES);
        }

        int pixels() {
            return rows * cols;
        }

        int rowOf(int p) {
            return cols > 0 ? p / cols : 0;
        }

        int colOf(int p) {
            return cols > 0 ? p % cols : 0;
        }

        boolean hasPixel(int p) {
            return p >= 0 && p < pixels();
        }

        boolean hasEdge(int e) {
            if (e < 0 || e >= 2 * pixels()) {
                return false;
            }
            int p = e / 2;
            return e % 2 == 0 ? colOf(p) < cols - 1 : rowOf(p) < rows - 1;
        }

        boolean hasRing(int ring) {
            return hasPixel(ring) && rowOf(ring) < rows - 1 && colOf(ring) < cols - 1;
        }

        int tail(int e) {
            return e / 2;
        }

        int tip(int e) {
            return e % 2 == 0 ? e / 2 + 1 : e / 2 + cols;
        }

        boolean isShut(int e) {
            return hidden[tail(e)] || hidden[tip(e)];
        }

        static int wrapped(int v) {
            int left = v % TURN;
            if (left > HALF_TURN) {
                return left - TURN;
            }
            return left < -HALF_TURN ? left + TURN : left;
        }

        int stepFrom(int a, int b) {
            return wrapped(phases[b] - phases[a]);
        }

        int stepOver(int e) {
            return stepFrom(tail(e), tip(e));
        }

        /** The pixel next to one at a side, 0 to 3 in the order of their numbers, or NONE. */
        int beside(int p, int side) {
            switch (side) {
                case UP:
                    return p >= cols ? p - cols : NONE;
                case LEFT:
                    return colOf(p) > 0 ? p - 1 : NONE;
                case RIGHT:
                    return colOf(p) < cols - 1 ? p + 1 : NONE;
                default:
                    return rowOf(p) < rows - 1 ? p + cols : NONE;
            }
        }

        /** The edge to the pixel that beside() tells. */
        int edgeAt(int p, int side) {
            switch (side) {
                case UP:
                    return 2 * (p - cols) + 1;
                case LEFT:
                    return 2 * (p - 1);
                case RIGHT:
                    return 2 * p;
                default:
                    return 2 * p + 1;
            }
        }

        int countHidden() {
            int count = 0;
            for (int p = 0; p < pixels(); p++) {
                if (hidden[p]) {
                    count++;
                }
            }
            return count;
        }

        int chargeOf(int ring) {
            int right = ring + 1;
            int low = ring + cols;
            int across = low + 1;
            if (hidden[ring] || hidden[right] || hidden[low] || hidden[across]) {
                return 0;
            }
            int round = stepFrom(ring, right) + stepFrom(right, across)
                + stepFrom(across, low) + stepFrom(low, ring);
            return round / TURN;
        }

        int chargesTogether() {
            int sum = 0;
            for (int ring = 0; ring < pixels(); ring++) {
                if (hasRing(ring)) {
                    sum += chargeOf(ring);
                }
            }
            return sum;
        }

        int farBetween(int p, int q) {
            return Math.abs(rowOf(p) - rowOf(q)) + Math.abs(colOf(p) - colOf(q));
        }

        int farToBorder(int ring) {
            int row = rowOf(ring);
            int col = colOf(ring);
            int upOrDown = Math.min(row + 1, rows - 1 - row);
            return Math.min(upOrDown, Math.min(col + 1, cols - 1 - col));
        }

        int farOf(int ring, int other) {
            return other == NONE ? farToBorder(ring) : farBetween(ring, other);
        }

        int gradeBySteps(int p) {
            int sum = 0;
            int count = 0;
            for (int side = 0; side < SIDES; side++) {
                int q = beside(p, side);
                if (q != NONE && !hidden[q]) {
                    sum += Math.abs(stepFrom(p, q));
                    count++;
                }
            }
            return count == 0 ? 0 : Math.max(0, MOST_GRADE - sum / count);
        }

        boolean hidesOnLoop(int low, int high, int left, int right) {
            for (int row = low; row <= high; row++) {
                if (hidden[row * cols + left] || hidden[row * cols + right]) {
                    return true;
                }
            }
            for (int col = left; col <= right; col++) {
                if (hidden[low * cols + col] || hidden[high * cols + col]) {
                    return true;
                }
            }
            return false;
        }

        int stepsRound(int low, int high, int left, int right) {
            int sum = 0;
            for (int col = left; col < right; col++) {
                int above = low * cols + col;
                int below = high * cols + col;
                sum += stepFrom(above, above + 1) - stepFrom(below, below + 1);
            }
            for (int row = low; row < high; row++) {
                int there = row * cols + right;
                int back = row * cols + left;
                sum += stepFrom(there, there + cols) - stepFrom(back, back + cols);
            }
            return sum;
        }
    }

    /** The cuts of the latest joining, by their first rings, and how often they go over each edge. */
    private static final class Joining {
        int count;
        int fars;
        final int[] firsts;
        final int[] others;
        final int[] over;

        Joining() {
            firsts = new int[MOST_RINGS];
            others = new int[MOST_RINGS];
            over = new int[MOST_EDGES];
        }

        void clear() {
            count = 0;
            fars = 0;
            Arrays.fill(over, 0);
        }

        void copyFrom(Joining from) {
            count = from.count;
            fars = from.fars;
            System.arraycopy(from.firsts, 0, firsts, 0, MOST_RINGS);
            System.arraycopy(from.others, 0, others, 0, MOST_RINGS);
            System.arraycopy(from.over, 0, over, 0, MOST_EDGES);
        }

        void add(Chart chart, int ring, int other) {
            if (count >= MOST_RINGS) {
                return;
            }
            firsts[count] = ring;
            others[count] = other;
            count++;
            fars += chart.farOf(ring, other);
            if (other == NONE) {
                cutToBorder(chart, ring);
            } else {
                cutBetween(chart, ring, other);
            }
        }

        /** The ring has the lesser number, so its row is not below that of the other one. */
        private void cutBetween(Chart chart, int ring, int other) {
            int row = chart.rowOf(ring);
            int col = chart.colOf(ring);
            int lastRow = chart.rowOf(other);
            int lastCol = chart.colOf(other);
            goAlongRow(chart, row, Math.min(col, lastCol) + 1, Math.max(col, lastCol));
            goAlongColumn(chart, lastCol, row + 1, lastRow);
        }

        private void cutToBorder(Chart chart, int ring) {
            int row = chart.rowOf(ring);
            int col = chart.colOf(ring);
            int far = chart.farToBorder(ring);
            if (far == row + 1) {
                goAlongColumn(chart, col, 0, row);
            } else if (far == chart.rows - 1 - row) {
                goAlongColumn(chart, col, row + 1, chart.rows - 1);
            } else if (far == col + 1) {
                goAlongRow(chart, row, 0, col);
            } else {
                goAlongRow(chart, row, col + 1, chart.cols - 1);
            }
        }

        /** A cut within the row of a ring goes over edges downwards, one in each of these columns. */
        private void goAlongRow(Chart chart, int row, int firstCol, int lastCol) {
            for (int col = firstCol; col <= lastCol; col++) {
                over[2 * (row * chart.cols + col) + 1]++;
            }
        }

        /** A cut within the column of a ring goes over edges to the right, one in each of these rows. */
        private void goAlongColumn(Chart chart, int col, int firstRow, int lastRow) {
            for (int row = firstRow; row <= lastRow; row++) {
                over[2 * (row * chart.cols + col)]++;
            }
        }
    }

    /** The torn rings by number, and which of them are joined with which. */
    private static final class Pairing {
        private static final int MOST_FOR_LEAST = 12;
        private static final int ALONE = -2;

        int count;
        final int[] rings;
        private final int[] charges;
        private final int[] mates;
        // Of a set of torn rings that are left: the least sum of fars, or NONE if not known yet.
        private final int[] least;

        Pairing() {
            rings = new int[MOST_RINGS];
            charges = new int[MOST_RINGS];
            mates = new int[MOST_RINGS];
            least = new int[1 << MOST_FOR_LEAST];
        }

        void findTorn(Chart chart) {
            count = 0;
            for (int ring = 0; ring < chart.pixels(); ring++) {
                int charge = chart.hasRing(ring) ? chart.chargeOf(ring) : 0;
                if (charge != 0 && count < MOST_RINGS) {
                    rings[count] = ring;
                    charges[count] = charge;
                    mates[count] = ALONE;
                    count++;
                }
            }
        }

        /** How far the nearest torn ring is, farther than any grade reaches if there is none. */
        int farToTorn(Chart chart, int p) {
            int far = MOST_GRADE;
            for (int i = 0; i < count; i++) {
                far = Math.min(far, chart.farBetween(p, rings[i]));
            }
            return far;
        }

        /** Finds the torn rings, too. */
        boolean canPair(Chart chart, int manner) {
            findTorn(chart);
            return manner == NEAREST || manner == LEAST && count <= MOST_FOR_LEAST;
        }

        void pair(Chart chart, int manner) {
            if (manner == NEAREST) {
                pairNearest(chart);
            } else if (count <= MOST_FOR_LEAST) {
                pairLeast(chart);
            }
        }

        void tell(Chart chart, Joining joining) {
            joining.clear();
            for (int i = 0; i < count; i++) {
                if (mates[i] == NONE) {
                    joining.add(chart, rings[i], NONE);
                } else if (mates[i] > i && mates[i] < count) {
                    joining.add(chart, rings[i], rings[mates[i]]);
                }
            }
        }

        /** What is left to join only gets fewer, so one round for each far, by number, finds the nearest. */
        private void pairNearest(Chart chart) {
            for (int far = 1; far <= MOST_SIDE; far++) {
                for (int i = 0; i < count; i++) {
                    if (mates[i] == ALONE) {
                        pairAtFar(chart, i, far);
                    }
                }
            }
        }

        private void pairAtFar(Chart chart, int i, int far) {
            if (chart.farToBorder(rings[i]) == far) {
                mates[i] = NONE;
                return;
            }
            for (int j = i + 1; j < count; j++) {
                if (mates[j] == ALONE && charges[j] != charges[i]
                    && chart.farBetween(rings[i], rings[j]) == far) {
                    mates[i] = j;
                    mates[j] = i;
                    return;
                }
            }
        }

        private void pairLeast(Chart chart) {
            int left = (1 << count) - 1;
            Arrays.fill(least, 0, left + 1, NONE);
            for (int i = 0; i < count; i++) {
                if (isIn(left, i)) {
                    int mate = leastMate(chart, left, i);
                    mates[i] = mate;
                    left = without(left, i);
                    if (mate != NONE) {
                        mates[mate] = i;
                        left = without(left, mate);
                    }
                }
            }
        }

        /** The border if all fars can be the least so, else the first partner by whom they can. */
        private int leastMate(Chart chart, int left, int i) {
            int due = leastFars(this, chart, left, 0);
            int rest = without(left, i);
            if (chart.farToBorder(rings[i]) + leastFars(this, chart, rest, 0) == due) {
                return NONE;
            }
            for (int j = i + 1; j < count; j++) {
                if (isIn(left, j) && charges[j] != charges[i]
                    && chart.farBetween(rings[i], rings[j])
                    + leastFars(this, chart, without(rest, j), 0) == due) {
                    return j;
                }
            }
            return NONE;
        }

        private static int leastFars(Pairing of, Chart chart, int left, int depth) {
            if (left <= 0 || left >= of.least.length || depth > MOST_FOR_LEAST) {
                return 0;
            }
            if (of.least[left] != NONE) {
                return of.least[left];
            }
            int i = 0;
            while (i < MOST_FOR_LEAST - 1 && !isIn(left, i)) {
                i++;
            }
            int rest = without(left, i);
            int best = chart.farToBorder(of.rings[i]) + leastFars(of, chart, rest, depth + 1);
            for (int j = i + 1; j < of.count; j++) {
                if (isIn(left, j) && of.charges[j] != of.charges[i]) {
                    int far = chart.farBetween(of.rings[i], of.rings[j]);
                    best = Math.min(best, far + leastFars(of, chart, without(rest, j), depth + 1));
                }
            }
            of.least[left] = best;
            return best;
        }

        private static boolean isIn(int set, int i) {
            return (set >> i & 1) == 1;
        }

        private static int without(int set, int i) {
            return set & ~(1 << i);
        }
    }

    /** What the flood has laid so far. */
    private static final class Lay {
        boolean flooding;
        int awaited;
        int laid;
        int isleCount;
        final int[] heights;
        final int[] froms;
        // NONE: not laid. Of the four rows of pixels only this one counts where it is NONE.
        final int[] isles;
        final int[] moves;
        final int[] starts;
        final int[] turns;

        Lay() {
            heights = new int[MOST_PIXELS];
            froms = new int[MOST_PIXELS];
            isles = new int[MOST_PIXELS];
            moves = new int[MOST_PIXELS];
            starts = new int[MOST_PIXELS];
            turns = new int[MOST_PIXELS];
            Arrays.fill(isles, NONE);
        }

        void clear() {
            flooding = false;
            awaited = 0;
            laid = 0;
            isleCount = 0;
            Arrays.fill(isles, NONE);
        }

        void copyFrom(Lay from) {
            flooding = from.flooding;
            awaited = from.awaited;
            laid = from.laid;
            isleCount = from.isleCount;
            System.arraycopy(from.heights, 0, heights, 0, MOST_PIXELS);
            System.arraycopy(from.froms, 0, froms, 0, MOST_PIXELS);
            System.arraycopy(from.isles, 0, isles, 0, MOST_PIXELS);
            System.arraycopy(from.moves, 0, moves, 0, MOST_PIXELS);
            System.arraycopy(from.starts, 0, starts, 0, MOST_PIXELS);
            System.arraycopy(from.turns, 0, turns, 0, MOST_PIXELS);
        }

        void start(Chart chart) {
            clear();
            awaited = chart.pixels() - chart.countHidden();
            flooding = awaited > 0;
        }

        void advance(Chart chart, Front front) {
            int pixel = front.takeBest();
            if (pixel != NONE) {
                follow(chart, front.via[pixel], pixel);
            } else {
                pixel = bestNotLaid(chart);
                if (pixel == NONE || isleCount >= MOST_PIXELS) {
                    flooding = false;
                    return;
                }
                openIsle(chart, pixel);
            }
            laid++;
            moves[pixel] = laid;
            flooding = laid < awaited;
            front.spread(chart, this, pixel);
        }

        private void follow(Chart chart, int from, int pixel) {
            heights[pixel] = heights[from] + chart.stepFrom(from, pixel);
            froms[pixel] = from;
            isles[pixel] = isles[from];
        }

        private void openIsle(Chart chart, int pixel) {
            heights[pixel] = chart.phases[pixel];
            froms[pixel] = NONE;
            isles[pixel] = isleCount;
            starts[isleCount] = pixel;
            turns[isleCount] = 0;
            isleCount++;
        }

        private int bestNotLaid(Chart chart) {
            int best = NONE;
            for (int p = 0; p < chart.pixels(); p++) {
                if (!isLaid(p) && !chart.hidden[p]
                    && (best == NONE || chart.grades[p] > chart.grades[best])) {
                    best = p;
                }
            }
            return best;
        }

        boolean isLaid(int p) {
            return isles[p] != NONE;
        }

        boolean hasIsle(int isle) {
            return isle >= 0 && isle < isleCount;
        }

        int pixelsOf(Chart chart, int isle) {
            int count = 0;
            for (int p = 0; p < chart.pixels(); p++) {
                if (isles[p] == isle) {
                    count++;
                }
            }
            return count;
        }

        int depthOf(int p) {
            if (!isLaid(p)) {
                return NONE;
            }
            int depth = 0;
            int at = froms[p];
            while (at != NONE && depth < MOST_PIXELS) {
                depth++;
                at = froms[at];
            }
            return depth;
        }

        boolean canLift(Chart chart, int isle, int by) {
            for (int p = 0; p < chart.pixels(); p++) {
                if (isles[p] == isle) {
                    long lifted = heights[p] + (long) by * TURN;
                    if (lifted < Integer.MIN_VALUE || lifted > Integer.MAX_VALUE) {
                        return false;
                    }
                }
            }
            return true;
        }

        void raise(Chart chart, int isle, int by) {
            for (int p = 0; p < chart.pixels(); p++) {
                if (isles[p] == isle) {
                    heights[p] += by * TURN;
                }
            }
            turns[isle] += by;
        }

        /** NONE if it is no long. */
        long squareSum(Chart chart, int level) {
            long sum = 0;
            for (int p = 0; p < chart.pixels(); p++) {
                if (isLaid(p)) {
                    long root = Math.abs((long) heights[p] - level);
                    if (root > MOST_ROOT || root * root > Long.MAX_VALUE - sum) {
                        return NONE;
                    }
                    sum += root * root;
                }
            }
            return sum;
        }

        int lowest(Chart chart) {
            int best = NONE;
            for (int p = 0; p < chart.pixels(); p++) {
                if (isLaid(p) && (best == NONE || heights[p] < heights[best])) {
                    best = p;
                }
            }
            return best;
        }

        int highest(Chart chart) {
            int best = NONE;
            for (int p = 0; p < chart.pixels(); p++) {
                if (isLaid(p) && (best == NONE || heights[p] > heights[best])) {
                    best = p;
                }
            }
            return best;
        }

        boolean isPeak(Chart chart, int p) {
            if (!isLaid(p)) {
                return false;
            }
            for (int side = 0; side < Chart.SIDES; side++) {
                int q = chart.beside(p, side);
                if (q != NONE && isLaid(q) && heights[q] >= heights[p]) {
                    return false;
                }
            }
            return true;
        }

        int otherHeights(Chart chart, Lay other) {
            int count = 0;
            for (int p = 0; p < chart.pixels(); p++) {
                if (isLaid(p) && heights[p] != other.heights[p]) {
                    count++;
                }
            }
            return count;
        }
    }

    /** The pixels that the flood can reach next, each with the best pixel to come from. */
    private static final class Front {
        // Of an edge: whether it is shut, cut, or not there.
        final boolean[] barred;
        final int[] via;
        private final int[] worth;
        private final int[] waiting;
        private int count;

        Front() {
            barred = new boolean[MOST_EDGES];
            via = new int[MOST_PIXELS];
            worth = new int[MOST_PIXELS];
            waiting = new int[MOST_PIXELS];
        }

        void bar(Whole whole) {
            for (int e = 0; e < 2 * whole.chart.pixels(); e++) {
                barred[e] = !whole.chart.hasEdge(e) || whole.chart.isShut(e) || whole.isCut(e);
            }
        }

        /** Grades may have been told since the last move, so all is found anew from what is laid. */
        void gather(Whole whole) {
            count = 0;
            Arrays.fill(via, NONE);
            for (int p = 0; p < whole.chart.pixels(); p++) {
                if (whole.lay.isLaid(p)) {
                    spread(whole.chart, whole.lay, p);
                }
            }
        }

        void spread(Chart chart, Lay lay, int from) {
            for (int side = 0; side < Chart.SIDES; side++) {
                int to = chart.beside(from, side);
                if (to != NONE && !lay.isLaid(to) && !barred[chart.edgeAt(from, side)]) {
                    offer(to, from, Math.min(chart.grades[from], chart.grades[to]));
                }
            }
        }

        private void offer(int to, int from, int grade) {
            if (via[to] == NONE) {
                if (count >= MOST_PIXELS) {
                    return;
                }
                waiting[count] = to;
                count++;
            } else if (grade < worth[to] || grade == worth[to] && from > via[to]) {
                return;
            }
            via[to] = from;
            worth[to] = grade;
        }

        /** Takes the pixel with the best edge away, of several the least; NONE if none waits. */
        int takeBest() {
            int at = NONE;
            for (int i = 0; i < count; i++) {
                if (at == NONE || isBetter(waiting[i], waiting[at])) {
                    at = i;
                }
            }
            if (at == NONE) {
                return NONE;
            }
            int best = waiting[at];
            count--;
            waiting[at] = waiting[count];
            return best;
        }

        private boolean isBetter(int p, int q) {
            return worth[p] > worth[q] || worth[p] == worth[q] && p < q;
        }
    }

    /** All that acts change, and that is undone with them. */
    private static final class Whole {
        final Chart chart;
        final Joining joining;
        final Lay lay;

        Whole(Chart of) {
            chart = of;
            joining = new Joining();
            lay = new Lay();
        }

        void copyFrom(Whole from) {
            chart.copyFrom(from.chart);
            joining.copyFrom(from.joining);
            lay.copyFrom(from.lay);
        }

        void tellMap(int rows, int cols) {
            chart.reset(rows, cols);
            joining.clear();
            lay.clear();
        }

        boolean isCut(int e) {
            return chart.byHand[e] || joining.over[e] > 0;
        }

        int countCut() {
            int count = 0;
            for (int e = 0; e < 2 * chart.pixels(); e++) {
                if (isCut(e)) {
                    count++;
                }
            }
            return count;
        }

        boolean isJump(int e) {
            return !isCut(e) && differs(e);
        }

        boolean isTear(int e) {
            return isCut(e) && lay.isles[chart.tail(e)] == lay.isles[chart.tip(e)] && differs(e);
        }

        /** Both pixels laid, and the heights not a step apart. */
        private boolean differs(int e) {
            int a = chart.tail(e);
            int b = chart.tip(e);
            if (!lay.isLaid(a) || !lay.isLaid(b)) {
                return false;
            }
            // As numbers: at the ends of the ints a difference taken in ints comes round to a step.
            return (long) lay.heights[b] - lay.heights[a] != chart.stepFrom(a, b);
        }

        int countJumps() {
            int count = 0;
            for (int e = 0; e < 2 * chart.pixels(); e++) {
                if (chart.hasEdge(e) && isJump(e)) {
                    count++;
                }
            }
            return count;
        }

        int countTears() {
            int count = 0;
            for (int e = 0; e < 2 * chart.pixels(); e++) {
                if (chart.hasEdge(e) && isTear(e)) {
                    count++;
                }
            }
            return count;
        }

        int edgesOutOf(int isle) {
            int count = 0;
            for (int e = 0; e < 2 * chart.pixels(); e++) {
                if (chart.hasEdge(e)) {
                    int a = lay.isles[chart.tail(e)];
                    int b = lay.isles[chart.tip(e)];
                    if (a != b && a != NONE && b != NONE && (a == isle || b == isle)) {
                        count++;
                    }
                }
            }
            return count;
        }
    }

    /** The edges between islands, in the order of their two islands, and how these fit one another. */
    private static final class Seams {
        // Turns of an edge over which no number of whole turns fits.
        private static final int NO_TURNS = Integer.MIN_VALUE;

        int fitTurns;
        // NONE: no edge is between both islands.
        int fitEdges;
        private int count;
        private final int[] pairs;
        private final int[] turns;
        private final int[] groups;

        Seams() {
            pairs = new int[MOST_EDGES];
            turns = new int[MOST_EDGES];
            groups = new int[MOST_PIXELS];
        }

        void gather(Chart chart, Lay lay) {
            count = 0;
            for (int e = 0; e < 2 * chart.pixels(); e++) {
                if (chart.hasEdge(e)) {
                    gatherEdge(chart, lay, chart.tail(e), chart.tip(e));
                }
            }
        }

        private void gatherEdge(Chart chart, Lay lay, int p, int q) {
            if (!lay.isLaid(p) || !lay.isLaid(q) || lay.isles[p] == lay.isles[q]) {
                return;
            }
            boolean inOrder = lay.isles[p] < lay.isles[q];
            int a = inOrder ? p : q;
            int b = inOrder ? q : p;
            insert(pairOf(lay.isles[a], lay.isles[b]), turnsLacking(chart, lay, a, b));
        }

        private void insert(int pair, int lacking) {
            if (count >= MOST_EDGES) {
                return;
            }
            int at = count;
            while (at > 0 && pairs[at - 1] > pair) {
                pairs[at] = pairs[at - 1];
                turns[at] = turns[at - 1];
                at--;
            }
            pairs[at] = pair;
            turns[at] = lacking;
            count++;
        }

        private static int pairOf(int low, int high) {
            return low * MOST_PIXELS + high;
        }

        private static int turnsLacking(Chart chart, Lay lay, int a, int b) {
            long lacking = chart.stepFrom(a, b) - ((long) lay.heights[b] - lay.heights[a]);
            return lacking % TURN == 0 ? (int) (lacking / TURN) : NO_TURNS;
        }

        void findFit(int i, int j) {
            int pair = pairOf(Math.min(i, j), Math.max(i, j));
            int start = 0;
            while (start < count && pairs[start] < pair) {
                start++;
            }
            fitWithin(start, endOfPair(start, pair), i < j ? 1 : -1);
        }

        private int endOfPair(int start, int pair) {
            int end = start;
            while (end < count && pairs[end] == pair) {
                end++;
            }
            return end;
        }

        private void fitWithin(int start, int end, int sign) {
            // Should no turns fit any edge, all fit as few of them, and 0 is the nearest 0.
            fitTurns = 0;
            fitEdges = start < end ? 0 : NONE;
            for (int s = start; s < end; s++) {
                int edges = 0;
                for (int t = s; t < end && turns[s] != NO_TURNS; t++) {
                    if (turns[t] == turns[s]) {
                        edges++;
                    }
                }
                int k = sign * turns[s];
                if (edges > fitEdges || edges == fitEdges && edges > 0 && isNearer(k, fitTurns)) {
                    fitEdges = edges;
                    fitTurns = k;
                }
            }
        }

        private static boolean isNearer(int k, int other) {
            int near = Math.abs(k);
            int far = Math.abs(other);
            return near < far || near == far && k > other;
        }

        /** Settles: how many groups are left, or NONE if a height would not be an int. */
        int uniteAll(Chart chart, Lay lay) {
            int left = lay.isleCount;
            for (int i = 0; i < left; i++) {
                groups[i] = i;
            }
            for (int round = 1; round < lay.isleCount; round++) {
                gather(chart, lay);
                int best = findBest();
                if (best == NONE) {
                    return left;
                }
                int from = groups[pairs[best] / MOST_PIXELS];
                int to = groups[pairs[best] % MOST_PIXELS];
                if (!liftGroup(chart, lay, to)) {
                    return NONE;
                }
                unite(lay, from, to);
                left--;
            }
            return left;
        }

        /** The first seam of the two islands that fit best, fitTurns being theirs; NONE without any. */
        private int findBest() {
            int best = NONE;
            int bestEdges = NONE;
            int bestTurns = 0;
            for (int s = 0; s < count; s++) {
                boolean isFirst = s == 0 || pairs[s] != pairs[s - 1];
                if (isFirst && groups[pairs[s] / MOST_PIXELS] != groups[pairs[s] % MOST_PIXELS]) {
                    fitWithin(s, endOfPair(s, pairs[s]), 1);
                    if (fitEdges > bestEdges) {
                        best = s;
                        bestEdges = fitEdges;
                        bestTurns = fitTurns;
                    }
                }
            }
            fitTurns = bestTurns;
            fitEdges = bestEdges;
            return best;
        }

        private boolean liftGroup(Chart chart, Lay lay, int group) {
            for (int i = 0; i < lay.isleCount; i++) {
                if (groups[i] == group) {
                    if (!lay.canLift(chart, i, fitTurns)) {
                        return false;
                    }
                    lay.raise(chart, i, fitTurns);
                }
            }
            return true;
        }

        private void unite(Lay lay, int into, int group) {
            for (int i = 0; i < lay.isleCount; i++) {
                if (groups[i] == group) {
                    groups[i] = into;
                }
            }
        }
    }

    /** Pixels of a height at least that hang together. */
    private static final class Areas {
        int count;
        int most;
        int leastPixel;
        private final boolean[] open;
        private final int[] stack;
        private int depth;

        Areas() {
            open = new boolean[MOST_PIXELS];
            stack = new int[MOST_PIXELS];
        }

        void find(Chart chart, Lay lay, int level) {
            count = 0;
            most = 0;
            leastPixel = NONE;
            for (int p = 0; p < chart.pixels(); p++) {
                open[p] = lay.isLaid(p) && lay.heights[p] >= level;
            }
            for (int p = 0; p < chart.pixels(); p++) {
                if (open[p]) {
                    int pixels = clearFrom(chart, p);
                    count++;
                    if (pixels > most) {
                        most = pixels;
                        leastPixel = p;
                    }
                }
            }
        }

        private int clearFrom(Chart chart, int first) {
            int pixels = 0;
            depth = 0;
            push(first);
            while (depth > 0 && pixels < MOST_PIXELS) {
                depth--;
                int p = stack[depth];
                pixels++;
                for (int side = 0; side < Chart.SIDES; side++) {
                    int q = chart.beside(p, side);
                    if (q != NONE && open[q]) {
                        push(q);
                    }
                }
            }
            return pixels;
        }

        private void push(int p) {
            if (depth < MOST_PIXELS) {
                open[p] = false;
                stack[depth] = p;
                depth++;
            }
        }
    }

    /** The latest acts: what was ahead of each. */
    private static final class Acts {
        int count;
        private int next;
        private final Whole[] kept;

        Acts() {
            kept = new Whole[MOST_ACTS];
        }

        void keep(Whole whole) {
            if (kept[next] == null) {
                kept[next] = new Whole(new Chart());
            }
            kept[next].copyFrom(whole);
            next = (next + 1) % MOST_ACTS;
            count = Math.min(MOST_ACTS, count + 1);
        }

        boolean takeBack(Whole whole) {
            int last = (next + MOST_ACTS - 1) % MOST_ACTS;
            if (count == 0 || kept[last] == null) {
                return false;
            }
            whole.copyFrom(kept[last]);
            next = last;
            count--;
            return true;
        }
    }

    /** The latest lines, three numbers each; line n of all stands at n modulo their bound. */
    private static final class Log {
        int total;
        private final int[] numbers;

        Log() {
            numbers = new int[3 * MOST_LINES];
        }

        void copyFrom(Log from) {
            total = from.total;
            System.arraycopy(from.numbers, 0, numbers, 0, 3 * MOST_LINES);
        }

        void note(int what, int first, int second) {
            int at = total % MOST_LINES * 3;
            numbers[at] = what;
            numbers[at + 1] = first;
            numbers[at + 2] = second;
            total++;
        }

        boolean has(int i) {
            return i >= 0 && i < Math.min(total, MOST_LINES);
        }

        int get(int i, int what) {
            return numbers[(total - 1 - i) % MOST_LINES * 3 + what];
        }
    }

    /** The tape, and how a map's text is read from it. */
    private static final class Tape {
        private static final int MOST_SIGNS = 24;
        private static final int FEWEST_SIGNS = 4;

        int length;
        int rows;
        int cols;
        private final int[] bytes;

        Tape() {
            bytes = new int[MOST_BYTES];
        }

        void add(int four) {
            for (int shift = 24; shift >= 0 && length < MOST_BYTES; shift -= 8) {
                bytes[length] = four >> shift & 255;
                length++;
            }
        }

        /** Where the text is wrong; NONE if it is not, rows and cols then are those of its map. */
        int findFault() {
            int ended = 0;
            int firstRow = 0;
            int signs = 0;
            for (int i = 0; i < length; i++) {
                if (bytes[i] == ';') {
                    if (!canEnd(signs, firstRow) || ended == MOST_SIDE - 1) {
                        return i;
                    }
                    firstRow = signs;
                    ended++;
                    signs = 0;
                } else {
                    if (signs == MOST_SIGNS || !canStand(i, signs)) {
                        return i;
                    }
                    signs++;
                }
            }
            if (!canEnd(signs, firstRow) || ended == 0) {
                return length;
            }
            rows = ended + 1;
            cols = signs / 2;
            return NONE;
        }

        private static boolean canEnd(int signs, int firstRow) {
            return signs % 2 == 0 && signs >= FEWEST_SIGNS && (firstRow == 0 || signs == firstRow);
        }

        private boolean canStand(int i, int signs) {
            boolean isDigit = digitOf(bytes[i]) != NONE;
            if (signs % 2 == 0 || i == 0) {
                return isDigit || bytes[i] == '.';
            }
            return bytes[i - 1] == '.' ? bytes[i] == '.' : isDigit;
        }

        private static int digitOf(int sign) {
            if (sign >= '0' && sign <= '9') {
                return sign - '0';
            }
            return sign >= 'a' && sign <= 'f' ? sign - 'a' + 10 : NONE;
        }

        /** The text has no fault, and the chart is as at first, with its rows and columns. */
        void tell(Chart chart) {
            int at = 0;
            for (int p = 0; p < chart.pixels() && at + 1 < length; p++) {
                if (p > 0 && chart.colOf(p) == 0) {
                    at++;
                }
                if (bytes[at] == '.') {
                    chart.hidden[p] = true;
                } else {
                    chart.phases[p] = Chart.wrapped(digitOf(bytes[at]) * 16 + digitOf(bytes[at + 1]) - 128);
                }
                at += 2;
            }
        }
    }
}
