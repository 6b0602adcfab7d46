/** The edges of VOICES and of THE TRACE: promises 28 and 29. */
public final class EdgesOfVoicesTest {
    private static final Due d = new Due("EdgesOfVoicesTest");
    private static final Edges e = new Edges(d);
    private static final int MIN = Integer.MIN_VALUE;
    private static final int MAX = Integer.MAX_VALUE;

    public static void main(String[] args) {
        voiceBounds();
        anyNumber();
        wrapsOfThings();
        wrapsOfKinds();
        cutTowardNothing();
        byEachDifference();
        partedForEachThing();
        partedOrder();
        partedChangesTheTraceAlone();
        whatLooksLikeAnError();
        bodyBounds();
        traceAtFirst();
        theLongestTrace();
        aShorterTrace();
        beyondLeavesTheTrace();
        d.end();
    }

    /** Six THINGS of one KIND and m, of which 2 speaks. */
    private static void says(int km, int voice, int x, int want) {
        d.due("28: km " + km + " voice " + voice + " of " + x, six(km).voice(2, voice, x), want);
    }

    private static DownByTheHour six(int km) {
        DownByTheHour x = new DownByTheHour();
        for (int i = 0; i < 6; i++) {
            x.thing(km, i);
        }
        return x;
    }

    private static void isTrace(String what, DownByTheHour x, int... bodies) {
        d.due(what + ", how many", x.count(7), bodies.length);
        for (int i = 0; i < bodies.length; i++) {
            d.due(what + ", body " + i, x.body(i), bodies[i]);
        }
        d.due(what + ", no more", x.body(bodies.length), Due.NONE);
    }

    // ---- promise 28

    private static void voiceBounds() {
        for (int of = 0; of <= 3; of++) {
            int voice = of;
            e.bounds("28: of three, thing, voice " + voice, Houses::lived, 0, 2, (x, v) -> x.voice(v, voice, 1));
            e.bounds("28: of six, thing, voice " + voice, Houses::full, 0, 5, (x, v) -> x.voice(v, voice, 1));
            e.none("28: of none, thing, voice " + voice, Houses::bare, Due.BEYOND, (x, v) -> x.voice(v, voice, 1),
                -1, 0, 1, 5, 6);
        }
        for (int of = 0; of <= 2; of++) {
            int thing = of;
            e.bounds("28: voice of " + thing, Houses::lived, 0, 3, (x, v) -> x.voice(thing, v, 5));
        }
        e.refused("28: neither thing nor voice", Houses::lived, Due.BEYOND, x -> x.voice(3, 4, 0));
    }

    private static void anyNumber() {
        int[] any = {MIN, MIN + 1, -1, 0, 1, MAX - 1, MAX};
        for (int v : any) {
            says(7, 0, v, v + 2);
            says(7, 1, v, 2 * (v + 2));
            says(7, 2, v, 2 * (v + 2) - 7);
            says(7, 3, v, v / 5);
            says(60, 0, v, 9);
            says(69, 1, v, 9 * 2 + 9);
        }
    }

    private static void wrapsOfThings() {
        says(0, 0, MAX, MIN + 1);
        says(0, 0, MAX - 2, MAX);
        says(0, 0, MAX - 1, MIN);
        says(0, 0, MIN, MIN + 2);
        says(0, 1, 1 << 30, MIN + 4);
        says(0, 1, (1 << 30) - 3, MAX - 1);
        says(0, 1, MIN, 4);
        says(9, 2, MIN - 2, -9);
        says(9, 2, (1 << 30) - 2, MAX - 8);
        says(1, 3, MIN, MIN);
        says(1, 3, MIN + 1, MAX);
        says(3, 3, MIN, MIN);
    }

    private static void wrapsOfKinds() {
        says(10, 0, MIN, MIN - 2);
        says(10, 0, MIN + 2, MIN);
        says(10, 1, MIN + 1, -2);
        says(14, 3, MIN, MIN / 2 - 2);
        says(11, 3, MIN, MIN - 2);
        says(20, 1, MIN / 2 - 2, MIN);
        says(20, 1, MIN, -4);
        says(29, 2, MIN / 2 - 2, MAX - 8);
        says(40, 0, 1 << 30, 3 * ((1 << 30) - 2));
        says(40, 0, MAX, 3 * (MAX - 2));
        says(40, 0, MIN, 3 * (MIN - 2));
        says(49, 2, 1 << 30, 6 * ((1 << 30) - 2) - 9 ^ 2);
        says(50, 1, MAX, -4);
        says(50, 1, -1, -4);
        says(50, 1, MIN, -6);
        says(58, 2, MAX, -12);
        says(30, 2, MAX, 2 * (MAX / 2 + 2));
        says(30, 2, MIN, 2 * (MIN / 2 + 2));
    }

    /** 40 groans of x / 2, and 13 parts, are cut toward 0. */
    private static void cutTowardNothing() {
        int[] x = {-5, -4, -3, -2, -1, 0, 1, 2, 3, 4, 5};
        int[] halves = {-2, -2, -1, -1, 0, 0, 0, 1, 1, 2, 2};
        for (int i = 0; i < x.length; i++) {
            says(36, 2, x[i], 2 * (halves[i] + 2) - 6);
            says(4, 3, x[i], halves[i]);
            says(0, 3, x[i], -halves[i]);
        }
        says(9, 3, 6, 0);
        says(9, 3, 7, 1);
        says(9, 3, -6, 0);
        says(9, 3, -7, -1);
    }

    /** m - k from 9 to -5; 0 alone is PARTED. */
    private static void byEachDifference() {
        for (int m = 0; m <= 9; m++) {
            DownByTheHour x = six(m);
            for (int k = 0; k < 6; k++) {
                int by = m - k;
                d.due("28: by " + m + " less " + k, x.voice(k, 3, 100), by == 0 ? Due.PARTED : 100 / by);
                d.due("28: below 0 by " + m + " less " + k, x.voice(k, 3, -7), by == 0 ? Due.PARTED : -7 / by);
                d.due("28: MIN by " + m + " less " + k, x.voice(k, 3, MIN), by == 0 ? Due.PARTED : MIN / by);
            }
            d.due("28: PARTED is told by each, m " + m, x.told(6), m < 6 ? 3 : 0);
        }
    }

    private static void partedForEachThing() {
        for (int kind = 0; kind <= 6; kind++) {
            for (int k = 0; k < 6; k++) {
                int km = 10 * kind + k;
                int thing = k;
                e.refused("28: PARTED of " + km, () -> six(km), Due.PARTED, x -> x.voice(thing, 3, 5));
                for (int voice = 0; voice <= 2; voice++) {
                    int of = voice;
                    e.taken("28: parts alone is PARTED, " + km, () -> six(km), Due.PARTED, x -> x.voice(thing, of, 5));
                }
            }
        }
        e.refused("28: PARTED of 0", () -> six(0), Due.PARTED, x -> x.voice(0, 3, 0));
        e.refused("28: PARTED of MIN", () -> six(0), Due.PARTED, x -> x.voice(0, 3, MIN));
        e.taken("28: a quotient of 0 isn't PARTED", () -> six(5), Due.PARTED, x -> x.voice(0, 3, 0));
        DownByTheHour x = six(0);
        d.due("28: PARTED", x.voice(0, 3, 5), Due.PARTED);
        x.become(0, 1);
        d.due("28: not with another m", x.voice(0, 3, 5), 5);
        x.become(0, 10);
        d.due("28: PARTED as another KIND", x.voice(0, 3, 5), Due.PARTED);
    }

    private static void partedOrder() {
        e.refused("28: BEYOND of voice ahead of PARTED", () -> six(0), Due.BEYOND, x -> x.voice(0, 4, 5));
        e.refused("28: BEYOND of thing ahead of PARTED", () -> six(0), Due.BEYOND, x -> x.voice(6, 3, 5));
    }

    /** But for THE TRACE, which is of this voice(), nothing changes. */
    private static void partedChangesTheTraceAlone() {
        DownByTheHour x = Houses.full();
        x.become(3, 13);
        x.voice(3, 3, 5);
        isTrace("29: of a full house", x, 21, 13);
        d.due("28: PARTED is told", x.told(6), 1);
        d.due("28: no other ERROR is", x.told(1) + x.told(3) + x.told(4) + x.told(5), 0);
        e.refused("28: of a full house", () -> {
            DownByTheHour y = Houses.full();
            y.become(0, 40);
            return y;
        }, Due.PARTED, y -> y.voice(0, 3, 1));
    }

    /** A VOICE answers any number: what looks like an ERROR is none. */
    private static void whatLooksLikeAnError() {
        for (int k = 1; k <= 6; k++) {
            int error = -1000000000 - k;
            DownByTheHour x = six(0);
            d.due("28: what looks like an ERROR " + k, x.voice(2, 0, error - 2), error);
            d.due("28: isn't told, " + k, x.told(k), 0);
            isTrace("29: has a TRACE, " + k, x, 10);
        }
    }

    // ---- promise 29

    private static void bodyBounds() {
        e.bounds("29: i, of five BODIES", Houses::lived, 0, 4, Due.NONE, (x, v) -> x.body(v));
        e.bounds("29: i, of six BODIES", Houses::full, 0, 5, Due.NONE, (x, v) -> x.body(v));
        e.none("29: i, of none", Houses::bare, Due.NONE, (x, v) -> x.body(v), -1, 0, 1, 29, 30, 31, MIN, MAX);
        e.none("29: i beyond the TRACE", Houses::lived, Due.NONE, (x, v) -> x.body(v), 29, 30, 31);
        e.changesNothing("29: asked", Houses::lived, 10, x -> x.body(4));
    }

    private static void traceAtFirst() {
        DownByTheHour x = six(0);
        d.due("29: no voice yet", x.count(7), 0);
        d.due("29: none such", x.body(0), Due.NONE);
        x.voice(0, 3, 1);
        isTrace("29: the first is PARTED", x, 13);
        DownByTheHour y = new DownByTheHour();
        y.voice(0, 0, 1);
        d.due("29: none where there is no THING", y.count(7), 0);
    }

    /** No voice() begins more than six BODIES, so THE TRACE never comes to its thirty. */
    private static void theLongestTrace() {
        for (int kind = 0; kind <= 6; kind++) {
            for (int voice = 0; voice <= 3; voice++) {
                DownByTheHour x = six(10 * kind + 9);
                x.voice(2, voice, 5);
                d.due("29: one at least, " + kind + " voice " + voice, x.count(7) >= 1 ? 1 : 0, 1);
                d.due("29: six at most, " + kind + " voice " + voice, x.count(7) <= 6 ? 1 : 0, 1);
            }
        }
        DownByTheHour y = six(47);
        y.voice(2, 2, 5);
        isTrace("29: the longest", y, 51, 12, 11, 50, 20, 10);
        y.voice(2, 3, 5);
        isTrace("29: what stands left first", y, 21, 13, 11, 50, 20, 10);
    }

    /** It is the latest alone: nothing of a longer one stays, nothing is added. */
    private static void aShorterTrace() {
        DownByTheHour x = six(47);
        x.voice(2, 2, 5);
        x.become(2, 60);
        x.voice(2, 0, 5);
        isTrace("29: one behind six", x, 70);
        x.voice(2, 1, 5);
        isTrace("29: three behind one", x, 71, 11, 70);
        for (int i = 0; i < 40; i++) {
            x.voice(2, 1, i);
        }
        isTrace("29: none is added", x, 71, 11, 70);
    }

    private static void beyondLeavesTheTrace() {
        DownByTheHour x = six(7);
        x.voice(2, 1, 5);
        x.voice(6, 0, 5);
        isTrace("29: of no such THING", x, 11, 10);
        x.voice(2, 4, 5);
        isTrace("29: of no such VOICE", x, 11, 10);
        x.voice(2, -1, 5);
        isTrace("29: of no such VOICE below 0", x, 11, 10);
        x.body(2);
        isTrace("29: of no such BODY", x, 11, 10);
        x.hours(1);
        x.become(2, 60);
        x.carry(2, 20);
        isTrace("29: of what was said, not of what is", x, 11, 10);
    }
}
