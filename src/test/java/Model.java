import java.util.ArrayList;
import java.util.List;

/**
 * The document told once more, as slowly and as literally as can be: every answer is reckoned
 * anew from what was told, edges are searched one by one, matchings are all tried.
 */
final class Model {
    static final int NONE = -1;

    /** What acts change. */
    static final class Map implements Cloneable {
        int r = 4, c = 4;
        int[] phase = new int[144], grade = new int[144];
        boolean[] hidden = new boolean[144], hand = new boolean[288];
        List<int[]> joins = new ArrayList<>();
        int[] over = new int[288];
        boolean flooding;
        boolean[] laid = new boolean[144];
        int[] height = new int[144], from = new int[144], isle = new int[144], move = new int[144];
        List<Integer> starts = new ArrayList<>(), turns = new ArrayList<>();

        Map(int r, int c) {
            this.r = r;
            this.c = c;
            java.util.Arrays.fill(grade, 50);
        }

        Map copy() {
            Map m = new Map(r, c);
            m.phase = phase.clone();
            m.grade = grade.clone();
            m.hidden = hidden.clone();
            m.hand = hand.clone();
            m.joins = new ArrayList<>(joins);
            m.over = over.clone();
            m.flooding = flooding;
            m.laid = laid.clone();
            m.height = height.clone();
            m.from = from.clone();
            m.isle = isle.clone();
            m.move = move.clone();
            m.starts = new ArrayList<>(starts);
            m.turns = new ArrayList<>(turns);
            return m;
        }

        void dry() {
            flooding = false;
            laid = new boolean[144];
            starts.clear();
            turns.clear();
        }

        int n() {
            return r * c;
        }

        boolean pixel(int p) {
            return p >= 0 && p < n();
        }

        boolean edge(int e) {
            return e >= 0 && pixel(e / 2) && (e % 2 == 0 ? e / 2 % c + 1 < c : e / 2 / c + 1 < r);
        }

        boolean ring(int q) {
            return pixel(q) && q % c + 1 < c && q / c + 1 < r;
        }

        int other(int e) {
            return e / 2 + (e % 2 == 0 ? 1 : c);
        }

        boolean shut(int e) {
            return hidden[e / 2] || hidden[other(e)];
        }

        boolean cut(int e) {
            return hand[e] || over[e] > 0;
        }

        int step(int a, int b) {
            return wrap(phase[b] - phase[a]);
        }

        int charge(int q) {
            int[] round = {q, q + 1, q + c + 1, q + c, q};
            int sum = 0;
            for (int i = 0; i < 4; i++) {
                if (hidden[round[i]]) {
                    return 0;
                }
                sum += step(round[i], round[i + 1]);
            }
            return sum / 255;
        }

        List<Integer> torn() {
            List<Integer> all = new ArrayList<>();
            for (int q = 0; q < n(); q++) {
                if (ring(q) && charge(q) != 0) {
                    all.add(q);
                }
            }
            return all;
        }

        int far(int q, int s) {
            if (s == NONE) {
                int least = 99;
                for (int far : new int[] {q / c + 1, r - 1 - q / c, q % c + 1, c - 1 - q % c}) {
                    least = Math.min(least, far);
                }
                return least;
            }
            return Math.abs(q / c - s / c) + Math.abs(q % c - s % c);
        }

        /** All ways to join what is left, the preferred ones first; the first least one is the one. */
        List<int[]> least(List<Integer> left) {
            if (left.isEmpty()) {
                return new ArrayList<>();
            }
            int first = left.get(0);
            List<int[]> best = null;
            for (int i = 0; i < left.size(); i++) {
                int mate = i == 0 ? NONE : left.get(i);
                if (mate != NONE && charge(mate) == charge(first)) {
                    continue;
                }
                List<Integer> rest = new ArrayList<>(left.subList(1, left.size()));
                rest.remove((Integer) mate);
                List<int[]> way = least(rest);
                way.add(0, new int[] {first, mate});
                if (best == null || fars(way) < fars(best)) {
                    best = way;
                }
            }
            return best;
        }

        List<int[]> nearest(List<Integer> torn) {
            List<Integer> left = new ArrayList<>(torn);
            List<int[]> way = new ArrayList<>();
            while (!left.isEmpty()) {
                int[] best = null;
                for (int q : left) {
                    for (int i = -1; i < left.size(); i++) {
                        int s = i < 0 ? NONE : left.get(i);
                        if (s != NONE && (s <= q || charge(s) == charge(q))) {
                            continue;
                        }
                        if (best == null || far(q, s) < far(best[0], best[1])) {
                            best = new int[] {q, s};
                        }
                    }
                }
                way.add(best);
                left.remove((Integer) best[0]);
                left.remove((Integer) best[1]);
            }
            way.sort((x, y) -> Integer.compare(x[0], y[0]));
            return way;
        }

        int fars(List<int[]> way) {
            int sum = 0;
            for (int[] cut : way) {
                sum += far(cut[0], cut[1]);
            }
            return sum;
        }

        /** Null if it can't be. */
        List<int[]> joining(int manner) {
            List<Integer> torn = torn();
            if (manner == 1) {
                return nearest(torn);
            }
            return manner == 0 && torn.size() <= 12 ? least(torn) : null;
        }

        void join(List<int[]> way) {
            joins = way;
            over = new int[288];
            for (int[] cut : way) {
                goCut(cut[0], cut[1]);
            }
        }

        void goCut(int q, int s) {
            int row = q / c, col = q % c;
            if (s != NONE) {
                while (col != s % c) {
                    int next = col + (s % c > col ? 1 : -1);
                    cross(row, col, row, next);
                    col = next;
                }
                while (row != s / c) {
                    cross(row, col, row + 1, col);
                    row++;
                }
                return;
            }
            int far = far(q, NONE);
            int[][] ways = {{-1, 0, row + 1}, {1, 0, r - 1 - row}, {0, -1, col + 1}, {0, 1, c - 1 - col}};
            for (int[] way : ways) {
                if (way[2] == far) {
                    for (int i = 0; i < far; i++) {
                        cross(row, col, row + way[0], col + way[1]);
                        row += way[0];
                        col += way[1];
                    }
                    return;
                }
            }
        }

        /** The edge whose two pixels are in both rings (those beyond the map are thought there). */
        void cross(int row, int col, int row2, int col2) {
            for (int e = 0; e < 2 * n(); e++) {
                if (edge(e) && in(e / 2, row, col) && in(other(e), row, col)
                    && in(e / 2, row2, col2) && in(other(e), row2, col2)) {
                    over[e]++;
                }
            }
        }

        boolean in(int p, int row, int col) {
            return (p / c == row || p / c == row + 1) && (p % c == col || p % c == col + 1);
        }

        int toLay() {
            int count = 0;
            for (int p = 0; p < n(); p++) {
                count += hidden[p] || laid[p] ? 0 : 1;
            }
            return count;
        }

        int laidCount() {
            int count = 0;
            for (int p = 0; p < n(); p++) {
                count += laid[p] ? 1 : 0;
            }
            return count;
        }

        void move() {
            int[] best = null;
            for (int e = 0; e < 2 * n(); e++) {
                if (!edge(e) || shut(e) || cut(e) || laid[e / 2] == laid[other(e)]) {
                    continue;
                }
                int a = laid[e / 2] ? e / 2 : other(e);
                int b = laid[e / 2] ? other(e) : e / 2;
                int[] key = {-Math.min(grade[a], grade[b]), b, a};
                if (best == null || java.util.Arrays.compare(key, best) < 0) {
                    best = key;
                }
            }
            int p;
            if (best != null) {
                p = best[1];
                from[p] = best[2];
                height[p] = height[from[p]] + step(from[p], p);
                isle[p] = isle[from[p]];
            } else {
                p = NONE;
                for (int q = n() - 1; q >= 0; q--) {
                    if (!laid[q] && !hidden[q] && (p == NONE || grade[q] >= grade[p])) {
                        p = q;
                    }
                }
                from[p] = NONE;
                height[p] = phase[p];
                isle[p] = starts.size();
                starts.add(p);
                turns.add(0);
            }
            move[p] = laidCount() + 1;
            laid[p] = true;
        }

        void floodAll() {
            dry();
            while (toLay() > 0) {
                move();
            }
        }

        boolean jump(int e) {
            return !shut(e) && !cut(e) && laid[e / 2] && laid[other(e)] && differs(e);
        }

        boolean tear(int e) {
            return !shut(e) && cut(e) && laid[e / 2] && laid[other(e)] && isle[e / 2] == isle[other(e)]
                && differs(e);
        }

        /** As numbers, not as ints that come round. */
        boolean differs(int e) {
            return (long) height[other(e)] - height[e / 2] != step(e / 2, other(e));
        }

        int jumps() {
            int count = 0;
            for (int e = 0; e < 2 * n(); e++) {
                count += edge(e) && jump(e) ? 1 : 0;
            }
            return count;
        }

        int tears() {
            int count = 0;
            for (int e = 0; e < 2 * n(); e++) {
                count += edge(e) && tear(e) ? 1 : 0;
            }
            return count;
        }

        /** The turns and by how many edges, or null without an edge between both. */
        long[] fit(int i, int j) {
            List<Long> all = new ArrayList<>();
            long between = 0;
            for (int e = 0; e < 2 * n(); e++) {
                if (!edge(e) || shut(e) || !laid[e / 2] || !laid[other(e)]) {
                    continue;
                }
                for (int turn = 0; turn < 2; turn++) {
                    int a = turn == 0 ? e / 2 : other(e);
                    int b = turn == 0 ? other(e) : e / 2;
                    long lack = step(a, b) + (long) height[a] - height[b];
                    if (isle[a] != i || isle[b] != j) {
                        continue;
                    }
                    between++;
                    if (lack % 255 == 0) {
                        all.add(lack / 255);
                    }
                }
            }
            if (between == 0) {
                return null;
            }
            // All other turns than these and 0 fit no edge and are farther from 0.
            long[] best = {0, java.util.Collections.frequency(all, 0L)};
            for (long k : all) {
                long count = 0;
                for (long other : all) {
                    count += k == other ? 1 : 0;
                }
                if (count > best[1] || count == best[1] && Math.abs(k) < Math.abs(best[0])
                    || count == best[1] && k == -best[0] && k > 0) {
                    best = new long[] {k, count};
                }
            }
            return best;
        }

        boolean lift(int island, long by) {
            for (int p = 0; p < n(); p++) {
                long lifted = height[p] + by * 255;
                if (laid[p] && isle[p] == island && lifted != (int) lifted) {
                    return false;
                }
            }
            for (int p = 0; p < n(); p++) {
                if (laid[p] && isle[p] == island) {
                    height[p] = (int) (height[p] + by * 255);
                }
            }
            turns.set(island, (int) (turns.get(island) + by));
            return true;
        }

        int settle() {
            int[] group = new int[starts.size()];
            for (int i = 0; i < group.length; i++) {
                group[i] = i;
            }
            int left = group.length;
            while (true) {
                long[] best = null;
                for (int i = 0; i < group.length; i++) {
                    for (int j = i + 1; j < group.length; j++) {
                        long[] fit = group[i] == group[j] ? null : fit(i, j);
                        if (fit != null && (best == null || fit[1] > best[1])) {
                            best = new long[] {fit[0], fit[1], group[i], group[j]};
                        }
                    }
                }
                if (best == null) {
                    return left;
                }
                for (int i = 0; i < group.length; i++) {
                    if (group[i] == best[3]) {
                        if (!lift(i, best[0])) {
                            return NONE;
                        }
                        group[i] = (int) best[2];
                    }
                }
                left--;
            }
        }

        /** The areas, by their least pixels: that pixel and how many there are. */
        List<int[]> areas(int level) {
            int[] mark = new int[n()];
            for (int p = 0; p < n(); p++) {
                mark[p] = laid[p] && height[p] >= level ? p : NONE;
            }
            for (boolean again = true; again; ) {
                again = false;
                for (int e = 0; e < 2 * n(); e++) {
                    if (edge(e) && !shut(e) && mark[e / 2] != NONE && mark[other(e)] != NONE
                        && mark[e / 2] != mark[other(e)]) {
                        int least = Math.min(mark[e / 2], mark[other(e)]);
                        mark[e / 2] = least;
                        mark[other(e)] = least;
                        again = true;
                    }
                }
            }
            List<int[]> all = new ArrayList<>();
            for (int p = 0; p < n(); p++) {
                if (mark[p] == p) {
                    int count = 0;
                    for (int q = 0; q < n(); q++) {
                        count += mark[q] == p ? 1 : 0;
                    }
                    all.add(new int[] {p, count});
                }
            }
            return all;
        }

        int gradeBy(int how, int p) {
            if (how == 0) {
                return 50;
            }
            if (hidden[p]) {
                return 0;
            }
            if (how == 2) {
                int far = 99;
                for (int q : torn()) {
                    far = Math.min(far, 9 * far(p, q));
                }
                return far;
            }
            int sum = 0, count = 0;
            for (int e = 0; e < 2 * n(); e++) {
                if (edge(e) && !shut(e) && (e / 2 == p || other(e) == p)) {
                    sum += Math.abs(step(e / 2, other(e)));
                    count++;
                }
            }
            return count == 0 ? 0 : Math.max(0, 99 - sum / count);
        }
    }

    Map m = new Map(4, 4);
    int state, fault = NONE;
    List<Map> acts = new ArrayList<>();
    List<int[]> log = new ArrayList<>();
    List<Integer> tape = new ArrayList<>();
    Map image;
    List<int[]> imageLog;
    int imageState;

    static int wrap(int v) {
        return (int) (Math.floorMod(v + 127L, 255L) - 127);
    }

    void act() {
        acts.add(m.copy());
        if (acts.size() > 12) {
            acts.remove(0);
        }
    }

    void line(int what, int a, int b) {
        log.add(new int[] {what, a, b});
    }

    boolean size(int r, int c) {
        if (r < 2 || r > 12 || c < 2 || c > 12) {
            return false;
        }
        act();
        m = new Map(r, c);
        return true;
    }

    int phase(int p, int v) {
        if (!m.pixel(p)) {
            return -1000;
        }
        act();
        m.dry();
        return m.phase[p] = wrap(v);
    }

    boolean hide(int p, boolean is) {
        if (!m.pixel(p) || m.hidden[p] == is) {
            return false;
        }
        act();
        m.dry();
        m.hidden[p] = is;
        return true;
    }

    boolean grade(int p, int v) {
        if (!m.pixel(p) || v < 0 || v > 99) {
            return false;
        }
        act();
        m.grade[p] = v;
        return true;
    }

    int grades(int how) {
        if (how < 0 || how > 2) {
            return NONE;
        }
        act();
        int sum = 0;
        for (int p = 0; p < m.n(); p++) {
            sum += m.grade[p] = m.gradeBy(how, p);
        }
        return sum;
    }

    boolean ramp(int a, int b) {
        if (Math.abs((long) a) > 999 || Math.abs((long) b) > 999) {
            return false;
        }
        act();
        m.dry();
        for (int p = 0; p < m.n(); p++) {
            m.phase[p] = wrap(m.phase[p] + a * (p / m.c) + b * (p % m.c));
        }
        return true;
    }

    int draw(int of) {
        state = state * 1664525 + 1013904223;
        return (int) ((state & 0xffffffffL) / 256 % of);
    }

    boolean noise(int n) {
        if (n < 1 || n > 60) {
            return false;
        }
        act();
        m.dry();
        while (n-- > 0) {
            int p = draw(m.n());
            m.phase[p] = wrap(m.phase[p] + draw(65) - 32);
        }
        return true;
    }

    int state(int v) {
        int was = state;
        state = v;
        return was;
    }

    int join(int manner) {
        List<int[]> way = m.joining(manner);
        if (way == null) {
            return NONE;
        }
        act();
        m.dry();
        m.join(way);
        line(0, m.torn().size(), m.fars(way));
        return m.fars(way);
    }

    boolean cut(int e, boolean is) {
        if (!m.edge(e) || m.hand[e] == is) {
            return false;
        }
        act();
        m.dry();
        m.hand[e] = is;
        return true;
    }

    int begin() {
        m.dry();
        m.flooding = m.toLay() > 0;
        return m.toLay();
    }

    int step(int n) {
        if (n < 1 || n > 144 || !m.flooding) {
            return NONE;
        }
        int moves = 0;
        while (moves < n && m.toLay() > 0) {
            int isles = m.starts.size();
            m.move();
            moves++;
            if (m.starts.size() > isles) {
                line(1, isles, m.starts.get(isles));
            }
        }
        if (m.toLay() == 0) {
            m.flooding = false;
            line(2, m.starts.size(), m.jumps());
        }
        return moves;
    }

    boolean island(int i) {
        return i >= 0 && i < m.starts.size();
    }

    boolean lift(int island, int turns) {
        if (!island(island)) {
            return false;
        }
        Map was = m.copy();
        if (!m.lift(island, turns)) {
            return false;
        }
        Map is = m;
        m = was;
        act();
        m = is;
        line(3, island, turns);
        return true;
    }

    int settle() {
        Map is = m.copy();
        int left = is.settle();
        if (left == NONE) {
            return NONE;
        }
        act();
        m = is;
        line(5, left, m.starts.size());
        return left;
    }

    int feed(int... five) {
        if (tape.size() + 20 > 400) {
            return NONE;
        }
        for (int number : five) {
            for (int shift = 24; shift >= 0; shift -= 8) {
                tape.add(number >>> shift & 255);
            }
        }
        return tape.size();
    }

    boolean end(int n) {
        if (n < 0 || n > tape.size()) {
            return false;
        }
        tape = new ArrayList<>(tape.subList(0, n));
        return true;
    }

    int text() {
        StringBuilder told = new StringBuilder();
        for (int b : tape) {
            told.append((char) b);
        }
        tape.clear();
        fault = faultOf(told.toString());
        if (fault != NONE) {
            return NONE;
        }
        act();
        String[] rows = told.toString().split(";");
        m = new Map(rows.length, rows[0].length() / 2);
        for (int p = 0; p < m.n(); p++) {
            String two = rows[p / m.c].substring(p % m.c * 2, p % m.c * 2 + 2);
            m.hidden[p] = two.equals("..");
            m.phase[p] = m.hidden[p] ? 0 : wrap(Integer.parseInt(two, 16) - 128);
        }
        return m.n();
    }

    /** The length of the longest beginning that some right text goes on from; the end if it must go on. */
    static int faultOf(String told) {
        for (int i = 1; i <= told.length(); i++) {
            if (!canBegin(told.substring(0, i))) {
                return i - 1;
            }
        }
        String[] rows = told.split(";", -1);
        boolean ends = rows.length >= 2;
        for (String row : rows) {
            ends &= row.length() == rows[0].length() && row.length() >= 4 && row.length() % 2 == 0;
        }
        return ends ? NONE : told.length();
    }

    static boolean canBegin(String part) {
        String[] rows = part.split(";", -1);
        if (rows.length > 12) {
            return false;
        }
        for (int i = 0; i < rows.length; i++) {
            boolean ended = i + 1 < rows.length;
            if (!rows[i].matches("(([0-9a-f]{2})|(\\.\\.)){0,12}([0-9a-f.])?") || rows[i].length() > 24) {
                return false;
            }
            if (ended && (rows[i].length() < 4 || rows[i].length() % 2 != 0 || rows[i].length() != rows[0].length())) {
                return false;
            }
        }
        return true;
    }

    int depth(int p) {
        int depth = 0;
        for (int q = p; m.from[q] != NONE; q = m.from[q]) {
            depth++;
        }
        return depth;
    }

    int pixel(int p, int what) {
        if (!m.pixel(p) || what < 0 || what > 7) {
            return -1000;
        }
        boolean laid = m.laid[p];
        return new int[] {m.phase[p], m.grade[p], m.hidden[p] ? 1 : 0, laid ? 1 : 0, laid ? m.from[p] : NONE,
            laid ? m.isle[p] : NONE, laid ? depth(p) : NONE, laid ? m.move[p] : 0}[what];
    }

    int height(int p) {
        return m.pixel(p) && m.laid[p] ? m.height[p] : -100000000;
    }

    int edge(int e, int what) {
        if (!m.edge(e) || what < 0 || what > 6) {
            return -1000;
        }
        return new int[] {m.step(e / 2, m.other(e)), m.shut(e) ? 1 : 0, m.over[e], m.hand[e] ? 1 : 0,
            m.jump(e) ? 1 : 0, m.tear(e) ? 1 : 0, Math.min(m.grade[e / 2], m.grade[m.other(e)])}[what];
    }

    int charge(int q) {
        return m.ring(q) ? m.charge(q) : -1000;
    }

    int torn(int i) {
        List<Integer> torn = m.torn();
        return i == NONE ? torn.size() : i >= 0 && i < torn.size() ? torn.get(i) : NONE;
    }

    int far(int q, int s) {
        return m.ring(q) && (s == NONE || m.ring(s)) ? m.far(q, s) : NONE;
    }

    int joined(int i, int what) {
        if (i == NONE) {
            return m.joins.size();
        }
        if (i < 0 || i >= m.joins.size() || what < 0 || what > 2) {
            return -1000;
        }
        int[] cut = m.joins.get(i);
        return what < 2 ? cut[what] : m.far(cut[0], cut[1]);
    }

    int island(int i, int what) {
        if (!island(i) || what < 0 || what > 3) {
            return NONE;
        }
        int pixels = 0, edges = 0;
        for (int p = 0; p < m.n(); p++) {
            pixels += m.laid[p] && m.isle[p] == i ? 1 : 0;
        }
        for (int e = 0; e < 2 * m.n(); e++) {
            if (m.edge(e) && !m.shut(e) && m.laid[e / 2] && m.laid[m.other(e)]) {
                edges += (m.isle[e / 2] == i) != (m.isle[m.other(e)] == i) ? 1 : 0;
            }
        }
        return new int[] {m.starts.get(i), pixels, m.turns.get(i), edges}[what];
    }

    int fit(int i, int j, int what) {
        if (!island(i) || !island(j) || i == j || what < 0 || what > 1 || m.fit(i, j) == null) {
            return -1000000000;
        }
        return (int) m.fit(i, j)[what];
    }

    int loop(int low, int high, int left, int right) {
        if (low < 0 || low >= high || high >= m.r || left < 0 || left >= right || right >= m.c) {
            return -1000;
        }
        int sum = 0, row = low, col = left;
        do {
            int at = row * m.c + col;
            if (row == low && col < right) {
                col++;
            } else if (col == right && row < high) {
                row++;
            } else if (row == high && col > left) {
                col--;
            } else {
                row--;
            }
            if (m.hidden[at]) {
                return -1000;
            }
            sum += m.step(at, row * m.c + col);
        } while (row != low || col != left);
        return sum / 255;
    }

    long sum(int island) {
        if (!island(island)) {
            return -1000000000000L;
        }
        long sum = 0;
        for (int p = 0; p < m.n(); p++) {
            sum += m.laid[p] && m.isle[p] == island ? m.height[p] : 0;
        }
        return sum;
    }

    long power(int level, long times) {
        java.math.BigInteger sum = java.math.BigInteger.ZERO;
        for (int p = 0; p < m.n(); p++) {
            if (m.laid[p]) {
                sum = sum.add(java.math.BigInteger.valueOf((long) m.height[p] - level).pow(2));
            }
        }
        java.math.BigInteger all = sum.multiply(java.math.BigInteger.valueOf(times));
        return times < 0 || sum.bitLength() > 63 || all.bitLength() > 63 ? NONE : all.longValue();
    }

    int range(int what) {
        if (m.laidCount() == 0 || what < 0 || what > 3) {
            return -100000000;
        }
        int least = NONE, most = NONE;
        for (int p = m.n() - 1; p >= 0; p--) {
            if (m.laid[p]) {
                least = least == NONE || m.height[p] <= m.height[least] ? p : least;
                most = most == NONE || m.height[p] >= m.height[most] ? p : most;
            }
        }
        return new int[] {m.height[least], m.height[most], least, most}[what];
    }

    int between(int low, int high) {
        int count = 0;
        for (int p = 0; p < m.n(); p++) {
            count += m.laid[p] && m.height[p] >= low && m.height[p] <= high ? 1 : 0;
        }
        return count;
    }

    int areas(int level, int what) {
        if (what < 0 || what > 2) {
            return -1000;
        }
        int[] best = {NONE, 0};
        for (int[] area : m.areas(level)) {
            best = area[1] > best[1] ? area : best;
        }
        return what == 0 ? m.areas(level).size() : best[2 - what];
    }

    int peak(int i) {
        List<Integer> peaks = new ArrayList<>();
        for (int p = 0; p < m.n(); p++) {
            boolean is = m.laid[p];
            for (int e = 0; e < 2 * m.n(); e++) {
                if (m.edge(e) && !m.shut(e) && (e / 2 == p || m.other(e) == p)) {
                    int q = e / 2 == p ? m.other(e) : e / 2;
                    is &= !m.laid[q] || m.height[q] < m.height[p];
                }
            }
            if (is) {
                peaks.add(p);
            }
        }
        return i == NONE ? peaks.size() : i >= 0 && i < peaks.size() ? peaks.get(i) : NONE;
    }

    int way(int p, int i) {
        if (!m.pixel(p) || !m.laid[p] || i < 0) {
            return NONE;
        }
        while (i-- > 0 && p != NONE) {
            p = m.from[p];
        }
        return p;
    }

    int would(int manner, int what) {
        List<int[]> way = m.joining(manner);
        if (way == null || what < 0 || what > 4) {
            return NONE;
        }
        Map then = m.copy();
        then.join(way);
        then.floodAll();
        int other = 0;
        for (int p = 0; p < m.n(); p++) {
            other += m.laid[p] && m.height[p] != then.height[p] ? 1 : 0;
        }
        return new int[] {then.starts.size(), then.jumps(), then.tears(), then.fars(way), other}[what];
    }

    int apart(int e) {
        if (!m.edge(e)) {
            return NONE;
        }
        Map then = m.copy();
        then.hand[e] = true;
        then.floodAll();
        return then.starts.size();
    }

    int undo() {
        if (acts.isEmpty()) {
            return NONE;
        }
        m = acts.remove(acts.size() - 1);
        line(4, acts.size(), 0);
        return acts.size();
    }

    int log(int i, int what) {
        if (i < 0 || i >= 60 || i >= log.size() || what < 0 || what > 2) {
            return -100000000;
        }
        return log.get(log.size() - 1 - i)[what];
    }

    boolean image(boolean taken) {
        if (taken) {
            image = m.copy();
            imageLog = new ArrayList<>(log);
            imageState = state;
        } else if (image != null) {
            m = image.copy();
            log = new ArrayList<>(imageLog);
            state = imageState;
            acts.clear();
        }
        return image != null;
    }

    int look(int what) {
        int hidden = 0, charges = 0, cuts = 0;
        for (int p = 0; p < m.n(); p++) {
            hidden += m.hidden[p] ? 1 : 0;
            charges += m.ring(p) ? m.charge(p) : 0;
            cuts += (m.edge(2 * p) && m.cut(2 * p) ? 1 : 0) + (m.edge(2 * p + 1) && m.cut(2 * p + 1) ? 1 : 0);
        }
        if (what < 0 || what > 15) {
            return -100000000;
        }
        return new int[] {m.r, m.c, hidden, m.torn().size(), charges, cuts, m.laidCount(), m.starts.size(),
            m.flooding ? 1 : 0, m.jumps(), m.tears(), state, acts.size(), tape.size(), log.size(),
            m.fars(m.joins)}[what];
    }
}
