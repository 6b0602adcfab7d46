/** Promises 28 and 29: voices and the trace of their bodies. */
public final class VoicesTest {
    private static final Due d = new Due("VoicesTest");
    private static final int MIN = Integer.MIN_VALUE;
    private static final int MAX = Integer.MAX_VALUE;

    public static void main(String[] args) {
        things();
        kinds();
        wrap();
        parted();
        wholeBehindParted();
        wrong();
        d.end();
    }

    /** Things 0 to 5 in cells 0 to 5, of one KIND and with m as told. */
    private static DownByTheHour six(int km) {
        DownByTheHour x = new DownByTheHour();
        for (int i = 0; i < 6; i++) {
            x.thing(km, i);
        }
        return x;
    }

    /** What thing 2 of a KIND, with m 7, answers, and by which BODIES. */
    private static void voice(int kind, int voice, int x, int want, int... bodies) {
        DownByTheHour h = six(10 * kind + 7);
        String what = "28: kind " + kind + " voice " + voice + " of " + x;
        d.due(what, h.voice(2, voice, x), want);
        d.due(what + " bodies", h.count(7), bodies.length);
        for (int i = 0; i < bodies.length; i++) {
            d.due("29: " + what + " body " + i, h.body(i), bodies[i]);
        }
        d.due("29: " + what + " no more", h.body(bodies.length), Due.NONE);
    }

    private static void things() {
        voice(0, 0, 10, 12, 10);
        voice(0, 1, 10, 24, 11, 10);
        voice(0, 2, 10, 17, 12, 11, 10);
        voice(0, 3, 11, 2, 13);
        voice(0, 3, -11, -2, 13);
    }

    private static void kinds() {
        voice(1, 0, 10, 8, 20, 10);
        voice(1, 1, 10, 16, 11, 20, 10);
        voice(1, 2, 10, 9, 12, 11, 20, 10);
        voice(1, 3, 10, 2 + -2, 21, 13, 11, 20, 10);
        voice(2, 0, 10, 12, 10);
        voice(2, 1, 10, -24, 30, 11, 10);
        voice(2, 2, 10, -31, 12, 30, 11, 10);
        voice(2, 3, 10, 2, 13);
        voice(3, 0, 10, 12, 10);
        voice(3, 1, 10, 24, 11, 10);
        voice(3, 2, 11, 7, 40, 12, 11, 10);
        voice(3, 2, -11, -13, 40, 12, 11, 10);
        voice(3, 3, 10, 2, 13);
        voice(4, 0, 10, 24, 50, 20, 10);
        voice(4, 1, 10, 48, 11, 50, 20, 10);
        voice(4, 2, 10, 41 ^ 2, 51, 12, 11, 50, 20, 10);
        voice(4, 3, 10, 2 + -6, 21, 13, 11, 50, 20, 10);
        voice(5, 0, 10, 12, 10);
        voice(5, 1, 10, -26, 60, 30, 11, 10);
        voice(5, 2, 10, -33, 12, 60, 30, 11, 10);
        voice(5, 3, 10, 2, 13);
        voice(6, 0, 10, 9, 70);
        voice(6, 1, 10, 25, 71, 11, 70);
        voice(6, 2, 10, 18, 12, 71, 11, 70);
        voice(6, 3, 10, 2, 13);
    }

    private static void wrap() {
        voice(0, 0, MAX, MIN + 1, 10);
        voice(0, 1, MAX, 2 * (MIN + 1), 11, 10);
        DownByTheHour x = six(1);
        d.due("28: MIN by -1", x.voice(2, 3, MIN), MIN);
        d.due("28: k is the number of the thing", x.voice(5, 0, 100), 105);
        x.become(5, 49);
        d.due("28: of its kind now", x.voice(5, 0, 100), (100 + 5 - 4) * 3);
        x.become(0, 0);
        d.due("28: what looks like an ERROR", x.voice(0, 0, Due.BEYOND), Due.BEYOND);
        d.due("28: is none", x.told(1), 0);
        d.due("28: what looks like PARTED", x.voice(0, 0, Due.PARTED), Due.PARTED);
        d.due("28: is none", x.told(6), 0);
        d.due("29: of the latest", x.body(0), 10);
        d.due("29: one", x.count(7), 1);
    }

    private static void parted() {
        for (int kind = 0; kind < 7; kind++) {
            DownByTheHour x = six(10 * kind + 3);
            d.due("28: m - k is 0", x.voice(3, 3, 10), Due.PARTED);
            d.due("28: told", x.told(6), 1);
            d.due("28: not so of another", x.voice(3, 0, 10) == Due.PARTED ? 1 : 0, 0);
        }
        partedTrace(0, 13);
        partedTrace(1, 21, 13);
        partedTrace(2, 13);
        partedTrace(3, 13);
        partedTrace(4, 21, 13);
        partedTrace(5, 13);
        partedTrace(6, 13);
    }

    /** THE TRACE of a voice() that answers PARTED, behind a longer one, and behind ones that answer BEYOND. */
    private static void partedTrace(int kind, int... bodies) {
        DownByTheHour x = six(10 * kind + 3);
        String what = "29: PARTED of kind " + kind;
        x.voice(1, 2, 5);
        x.voice(3, 3, 5);
        isTrace(what, x, bodies);
        x.voice(6, 0, 5);
        x.voice(3, 4, 5);
        isTrace(what + ", BEYOND changes nothing", x, bodies);
        x.image();
        x.voice(1, 0, 5);
        x.voice(3, 3, 6);
        x.restore();
        isTrace(what + ", no IMAGE has it", x, bodies);
        d.due("28: told, " + what, x.told(6), 2);
    }

    /** What parted once is nothing to the next voice(). */
    private static void wholeBehindParted() {
        DownByTheHour x = six(13);
        x.voice(3, 3, 5);
        d.due("28: 4 by 2, and rattles(1)", x.voice(1, 3, 4), 2 + -4);
        isTrace("29: of the voice behind PARTED", x, 21, 13, 11, 20, 10);
        d.due("28: told but once", x.told(6), 1);
    }

    private static void isTrace(String what, DownByTheHour x, int... bodies) {
        d.due(what + ", how many", x.count(7), bodies.length);
        for (int i = 0; i < bodies.length; i++) {
            d.due(what + ", body " + i, x.body(i), bodies[i]);
        }
        d.due(what + ", no more", x.body(bodies.length), Due.NONE);
    }

    private static void wrong() {
        DownByTheHour x = new DownByTheHour();
        d.due("28: no things", x.voice(0, 0, 0), Due.BEYOND);
        d.due("29: no voice yet", x.body(0), Due.NONE);
        x.thing(5, 0);
        d.due("28: voice 4", x.voice(0, 4, 0), Due.BEYOND);
        d.due("28: voice -1", x.voice(0, -1, 0), Due.BEYOND);
        d.due("28: thing 1", x.voice(1, 0, 0), Due.BEYOND);
        d.due("28: thing -1", x.voice(-1, 0, 0), Due.BEYOND);
        x.voice(0, 2, 0);
        d.due("29: -1", x.body(-1), Due.NONE);
        d.due("29: MIN", x.body(MIN), Due.NONE);
        d.due("29: MAX", x.body(MAX), Due.NONE);
        d.due("29: 30", x.body(30), Due.NONE);
        d.due("29: told", x.told(2), 5);
    }
}
