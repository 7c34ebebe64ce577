import java.util.Random;

/** Runs of drawn calls, each answered by the program and by the model. */
public final class ModelTest {
    private static final int RUNS = 400;
    private static final int CALLS = 512;

    private final Checks checks = new Checks();
    private final Random random;
    private final TornFringes x = new TornFringes();
    private final Model y = new Model();
    private final int seed;

    private ModelTest(int seed) {
        this.seed = seed;
        random = new Random(seed);
    }

    public static void main(String[] args) {
        int first = args.length > 0 ? Integer.parseInt(args[0]) : 0;
        int runs = args.length > 1 ? Integer.parseInt(args[1]) : RUNS;
        int wrong = 0;
        for (int seed = first; seed < first + runs && wrong < 20; seed++) {
            wrong += new ModelTest(seed).run();
        }
        System.out.println("ModelTest: " + runs + " runs, " + wrong + " wrong answers");
        if (wrong > 0) {
            System.exit(1);
        }
    }

    private int run() {
        if (seed % 3 != 0) {
            int r = 2 + random.nextInt(11), c = 2 + random.nextInt(11);
            due("size", x.size(r, c), y.size(r, c));
        }
        for (int call = 0; call < CALLS && checks.wrong() == 0; call++) {
            checks.about("seed " + seed + ", call " + call);
            if (random.nextInt(3) > 0) {
                tell();
            } else {
                ask();
            }
            if (random.nextInt(40) == 0) {
                askAll();
            }
        }
        askAll();
        return checks.wrong();
    }

    private void due(String call, long got, long want) {
        checks.due(call, got, want);
    }

    private void due(String call, boolean got, boolean want) {
        checks.due(call, got, want);
    }

    /** Mostly a number below n, sometimes one about it, rarely any. */
    private int below(int n) {
        int draw = random.nextInt(40);
        if (draw == 0) {
            return any();
        }
        return draw < 4 ? random.nextInt(n + 4) - 2 : random.nextInt(Math.max(1, n));
    }

    private int any() {
        int[] ends = {Integer.MIN_VALUE, Integer.MAX_VALUE, Integer.MIN_VALUE + 1, 0, -1, 255, -128};
        return random.nextInt(3) == 0 ? ends[random.nextInt(ends.length)] : random.nextInt();
    }

    private int pixels() {
        return y.m.n();
    }

    private void tell() {
        int draw = random.nextInt(100);
        if (draw < 8) {
            int p = below(pixels());
            int v = random.nextBoolean() ? any() : random.nextInt(600) - 300;
            due("phase " + p + " " + v, x.phase(p, v), y.phase(p, v));
        } else if (draw < 13) {
            int p = below(pixels());
            boolean is = random.nextInt(3) > 0;
            due("hide " + p, x.hide(p, is), y.hide(p, is));
        } else if (draw < 19) {
            int p = below(pixels()), v = below(100);
            due("grade " + p + " " + v, x.grade(p, v), y.grade(p, v));
        } else if (draw < 22) {
            int how = below(3);
            due("grades " + how, x.grades(how), y.grades(how));
        } else if (draw < 26) {
            int a = random.nextInt(2002) - 1001, b = random.nextInt(10) == 0 ? any() : random.nextInt(2002) - 1001;
            due("ramp " + a + " " + b, x.ramp(a, b), y.ramp(a, b));
        } else if (draw < 32) {
            int n = 1 + below(60);
            due("noise " + n, x.noise(n), y.noise(n));
        } else if (draw < 34) {
            int v = random.nextInt();
            due("state " + v, x.state(v), y.state(v));
        } else if (draw < 44) {
            int manner = below(2);
            due("join " + manner, x.join(manner), y.join(manner));
        } else if (draw < 54) {
            cutSome();
        } else if (draw < 64) {
            due("begin", x.begin(), y.begin());
        } else if (draw < 78) {
            int n = random.nextInt(3) == 0 ? below(145) : 1 + random.nextInt(30);
            due("step " + n, x.step(n), y.step(n));
        } else {
            tellMore(draw);
        }
    }

    private void cutSome() {
        boolean is = random.nextInt(4) > 0;
        if (random.nextInt(4) > 0) {
            int e = below(2 * pixels());
            due("cut " + e, x.cut(e, is), y.cut(e, is));
            return;
        }
        int side = random.nextInt(2);
        int line = random.nextInt(12);
        for (int p = 0; p < pixels(); p++) {
            if ((side == 0 ? p % y.m.c : p / y.m.c) == line) {
                due("cut " + (2 * p + side), x.cut(2 * p + side, is), y.cut(2 * p + side, is));
            }
        }
    }

    private void tellMore(int draw) {
        if (draw < 83) {
            liftSome();
        } else if (draw < 88) {
            due("settle", x.settle(), y.settle());
        } else if (draw < 91) {
            feedText();
        } else if (draw < 96) {
            due("undo", x.undo(), y.undo());
        } else if (draw < 98) {
            boolean taken = random.nextBoolean();
            due("image " + taken, x.image(taken), y.image(taken));
        } else if (random.nextInt(3) == 0) {
            int r = below(13), c = below(13);
            due("size " + r + " " + c, x.size(r, c), y.size(r, c));
        } else {
            int p = below(pixels());
            due("phase " + p, x.phase(p, 0), y.phase(p, 0));
        }
    }

    private void liftSome() {
        int island = below(y.m.starts.size());
        int turns = random.nextInt(4) == 0 ? any() / 255 : random.nextInt(9) - 4;
        boolean toTheEnd = random.nextInt(4) == 0 && y.island(island);
        if (toTheEnd) {
            turns = turnsToAnEnd(island, random.nextBoolean());
        }
        due("lift " + island + " " + turns, x.lift(island, turns), y.lift(island, turns));
        if (toTheEnd && y.m.flooding) {
            int n = 1 + random.nextInt(9);
            due("step at the end of the ints " + n, x.step(n), y.step(n));
            for (int e = 0; e < 2 * pixels(); e++) {
                due("jump " + e, x.edge(e, 4), y.edge(e, 4));
                due("tear " + e, x.edge(e, 5), y.edge(e, 5));
            }
        }
    }

    /** By how many turns an island can just be lifted, or one more. */
    private int turnsToAnEnd(int island, boolean up) {
        long turns = Integer.MAX_VALUE;
        for (int p = 0; p < pixels(); p++) {
            if (y.m.laid[p] && y.m.isle[p] == island) {
                long left = up ? Integer.MAX_VALUE - (long) y.m.height[p] : (long) y.m.height[p] - Integer.MIN_VALUE;
                turns = Math.min(turns, left / 255);
            }
        }
        turns += random.nextInt(6) == 0 ? 1 : 0;
        return (int) (up ? turns : -turns);
    }

    private void feedText() {
        int rows = random.nextInt(6) == 0 ? random.nextInt(15) : 2 + random.nextInt(5);
        int cols = random.nextInt(6) == 0 ? random.nextInt(15) : 2 + random.nextInt(5);
        StringBuilder told = new StringBuilder();
        for (int p = 0; p < rows * cols; p++) {
            if (p > 0 && p % cols == 0) {
                told.append(';');
            }
            told.append(random.nextInt(9) == 0 ? ".." : String.format("%02x", random.nextInt(256)));
        }
        for (int i = 0; i < told.length() && random.nextInt(3) == 0; i++) {
            told.setCharAt(random.nextInt(told.length()), "0a.;g:/`A\u00ff".charAt(random.nextInt(10)));
        }
        int length = told.length();
        while (told.length() % 20 > 0) {
            told.append('0');
        }
        for (int i = 0; i < told.length(); i += 20) {
            int[] v = new int[5];
            for (int k = 0; k < 20; k++) {
                v[k / 4] = v[k / 4] << 8 | told.charAt(i + k);
            }
            due("feed", x.feed(v[0], v[1], v[2], v[3], v[4]), y.feed(v));
        }
        int n = random.nextInt(8) == 0 ? below(length + 2) : length;
        due("end " + n, x.end(n), y.end(n));
        if (random.nextInt(20) > 0) {
            due("text " + told, x.text(), y.text());
            due("fault", x.fault(), y.fault);
        }
    }

    private void ask() {
        int p = below(pixels()), q = random.nextInt(3) == 0 ? -1 : below(pixels());
        int e = below(2 * pixels()), i = random.nextInt(3) == 0 ? -1 : below(12), what = below(8);
        int isle = below(y.m.starts.size()), other = below(y.m.starts.size() + 1);
        int level = random.nextInt(9) == 0 ? any() : random.nextInt(600) - 300;
        switch (random.nextInt(16)) {
            case 0 -> due("pixel " + p + " " + what, x.pixel(p, what), y.pixel(p, what));
            case 1 -> due("height " + p, x.height(p), y.height(p));
            case 2 -> due("edge " + e + " " + what, x.edge(e, what), y.edge(e, what));
            case 3 -> due("far " + p + " " + q, x.far(p, q), y.far(p, q));
            case 4 -> due("joined " + i + " " + what, x.joined(i, what), y.joined(i, what));
            case 5 -> due("fit " + isle + " " + other, x.fit(isle, other, what), y.fit(isle, other, what));
            case 6 -> {
                int a = below(y.m.r), b = below(y.m.r), c = below(y.m.c), d = below(y.m.c);
                due("loop", x.loop(a, b, c, d), y.loop(a, b, c, d));
                due("loop", x.loop(Math.min(a, b), Math.max(a, b), Math.min(c, d), Math.max(c, d)),
                    y.loop(Math.min(a, b), Math.max(a, b), Math.min(c, d), Math.max(c, d)));
            }
            case 7 -> {
                long times = random.nextInt(3) == 0 ? random.nextLong() >> random.nextInt(60) : random.nextInt(9) - 1;
                due("power " + level + " " + times, x.power(level, times), y.power(level, times));
            }
            case 8 -> due("range " + what, x.range(what), y.range(what));
            case 9 -> {
                int high = level + random.nextInt(400) - 50;
                due("between", x.between(level, high), y.between(level, high));
            }
            case 10 -> due("areas " + level + " " + what, x.areas(level, what), y.areas(level, what));
            case 11 -> due("peak " + i, x.peak(i), y.peak(i));
            case 12 -> due("way " + p + " " + i, x.way(p, i), y.way(p, i));
            case 13 -> {
                int manner = below(2);
                due("would " + manner + " " + what, x.would(manner, what), y.would(manner, what));
            }
            case 14 -> due("apart " + e, x.apart(e), y.apart(e));
            default -> {
                int line = below(62);
                due("log " + line + " " + what, x.log(line, what), y.log(line, what));
            }
        }
    }

    private void askAll() {
        for (int what = -1; what <= 16; what++) {
            due("look " + what, x.look(what), y.look(what));
        }
        for (int p = -1; p <= pixels(); p++) {
            for (int what = -1; what <= 8; what++) {
                due("pixel " + p + " " + what, x.pixel(p, what), y.pixel(p, what));
            }
            due("height " + p, x.height(p), y.height(p));
            due("charge " + p, x.charge(p), y.charge(p));
            due("torn " + p, x.torn(p), y.torn(p));
            due("peak " + p, x.peak(p), y.peak(p));
            due("far " + p, x.far(p, -1), y.far(p, -1));
            due("sum " + p, x.sum(p), y.sum(p));
            for (int what = -1; what <= 4; what++) {
                due("island " + p + " " + what, x.island(p, what), y.island(p, what));
                due("joined " + p + " " + what, x.joined(p, what), y.joined(p, what));
            }
        }
        for (int e = -1; e <= 2 * pixels(); e++) {
            for (int what = -1; what <= 7; what++) {
                due("edge " + e + " " + what, x.edge(e, what), y.edge(e, what));
            }
        }
        for (int i = -1; i <= 61; i++) {
            for (int what = -1; what <= 3; what++) {
                due("log " + i + " " + what, x.log(i, what), y.log(i, what));
            }
        }
        for (int i = 0; i < Math.min(6, y.m.starts.size()); i++) {
            for (int j = 0; j < Math.min(6, y.m.starts.size()); j++) {
                due("fit " + i + " " + j, x.fit(i, j, 0), y.fit(i, j, 0));
                due("fit " + i + " " + j, x.fit(i, j, 1), y.fit(i, j, 1));
            }
        }
    }
}
