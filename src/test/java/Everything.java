import java.util.ArrayList;
import java.util.List;

/** All that can be asked of an object, so that two states of it, or of two objects, can be compared. */
final class Everything {
    private final List<String> asked = new ArrayList<>();
    private final List<Long> answered = new ArrayList<>();

    private Everything() {
    }

    static Everything of(TornFringes x) {
        Everything all = ofMap(x);
        all.ask("STATE", x.look(11));
        all.ask("ACTS", x.look(12));
        all.ask("bytes of THE TAPE", x.look(13));
        all.ask("fault", x.fault());
        all.askLog(x);
        return all;
    }

    /** All but STATE, ACTS, THE TAPE, fault() and THE LOG. */
    static Everything ofMap(TornFringes x) {
        Everything all = new Everything();
        all.askMap(x);
        all.askPixels(x);
        all.askEdges(x);
        all.askLaid(x);
        return all;
    }

    /** The first question that is answered otherwise; an empty text if there is none. */
    String otherThan(Everything before) {
        for (int i = 0; i < asked.size() && i < before.asked.size(); i++) {
            boolean isSame = asked.get(i).equals(before.asked.get(i))
                && answered.get(i).longValue() == before.answered.get(i).longValue();
            if (!isSame) {
                return before.asked.get(i) + " was " + before.answered.get(i) + ", is " + answered.get(i);
            }
        }
        return asked.size() == before.asked.size() ? "" : "not as much can be asked";
    }

    private void ask(String call, long answer) {
        asked.add(call);
        answered.add(answer);
    }

    private void askMap(TornFringes x) {
        for (int what = 0; what <= 10; what++) {
            ask("look " + what, x.look(what));
        }
        ask("look 15", x.look(15));
        for (int i = -1; i < x.torn(-1); i++) {
            ask("torn " + i, x.torn(i));
        }
        for (int i = -1; i < x.joined(-1, 0); i++) {
            for (int what = 0; what < 3; what++) {
                ask("joined " + i + " " + what, x.joined(i, what));
            }
        }
        ask("loop", x.loop(0, x.look(0) - 1, 0, x.look(1) - 1));
    }

    private void askPixels(TornFringes x) {
        int pixels = x.look(0) * x.look(1);
        for (int p = 0; p < pixels; p++) {
            for (int what = 0; what <= 7; what++) {
                ask("pixel " + p + " " + what, x.pixel(p, what));
            }
            ask("height " + p, x.height(p));
            ask("charge " + p, x.charge(p));
            ask("far " + p, x.far(p, -1));
            ask("way " + p, x.way(p, 1));
        }
    }

    private void askEdges(TornFringes x) {
        int edges = 2 * x.look(0) * x.look(1);
        for (int e = 0; e < edges; e++) {
            for (int what = 0; what <= 6; what++) {
                ask("edge " + e + " " + what, x.edge(e, what));
            }
        }
    }

    private void askLaid(TornFringes x) {
        int islands = x.look(7);
        for (int i = 0; i < islands; i++) {
            for (int what = 0; what <= 3; what++) {
                ask("island " + i + " " + what, x.island(i, what));
            }
            ask("sum " + i, x.sum(i));
            ask("fit " + i, x.fit(i, i + 1, 0));
            ask("fit " + i, x.fit(i, i + 1, 1));
        }
        for (int what = 0; what <= 3; what++) {
            ask("range " + what, x.range(what));
            ask("areas " + what, x.areas(0, what));
        }
        for (int i = -1; i < x.peak(-1); i++) {
            ask("peak " + i, x.peak(i));
        }
        ask("between", x.between(-99, 99));
        ask("power", x.power(1, 1));
    }

    private void askLog(TornFringes x) {
        ask("lines of THE LOG", x.look(14));
        for (int i = 0; i < 60; i++) {
            for (int what = 0; what <= 2; what++) {
                ask("log " + i + " " + what, x.log(i, what));
            }
        }
    }
}
