/** Calls on the edge of what is taken: the last that is, the first that is refused, and that this changes nothing. */
final class Edges {
    private static final int LOW = -1000000000;

    interface House {
        DownByTheHour made();
    }

    interface Call {
        long on(DownByTheHour x);
    }

    interface CallBy {
        long on(DownByTheHour x, int v);
    }

    private final Due d;

    Edges(Due d) {
        this.d = d;
    }

    /** The least and the most are taken; the next on either side, and the outermost, are BEYOND. */
    void bounds(String what, House house, int least, int most, CallBy call) {
        bounds(what, house, least, most, Due.BEYOND, call);
    }

    void bounds(String what, House house, int least, int most, int error, CallBy call) {
        taken(what + " " + least, house, error, x -> call.on(x, least));
        taken(what + " " + most, house, error, x -> call.on(x, most));
        none(what, house, error, call, least - 1, most + 1, Integer.MIN_VALUE, Integer.MAX_VALUE);
    }

    /** Each of some numbers is refused. */
    void none(String what, House house, int error, CallBy call, int... numbers) {
        for (int v : numbers) {
            refused(what + " " + v, house, error, x -> call.on(x, v));
        }
    }

    /** A call doesn't answer this ERROR, nor is it told. */
    void taken(String what, House house, int error, Call call) {
        DownByTheHour x = house.made();
        long before = x.told(LOW - error);
        d.due(what + " is taken", call.on(x) == error ? 1 : 0, 0);
        d.due(what + " is not told as an ERROR", x.told(LOW - error), before);
    }

    /** A call answers an ERROR, which is told once; else all is as in a house in which it was never made. */
    void refused(String what, House house, int error, Call call) {
        leavesAll(what, house, error, LOW - error, call);
    }

    /** A call answers what is due, and tells no ERROR; all is as in a house in which it was never made. */
    void changesNothing(String what, House house, long want, Call call) {
        leavesAll(what, house, want, 0, call);
    }

    /** THE TRACE is left out where a call is PARTED, as it is that of this voice() then. */
    private void leavesAll(String what, House house, long want, int told, Call call) {
        boolean isTraceAsked = want != Due.PARTED;
        for (int part = 0; part < Probe.PARTS; part++) {
            DownByTheHour x = house.made();
            DownByTheHour y = house.made();
            d.due(what, call.on(x), want);
            for (int k = 1; k <= 6; k++) {
                d.due(what + ", told(" + k + ")", x.told(k), y.told(k) + (k == told ? 1 : 0));
            }
            alike(what, new Probe(x, part, isTraceAsked), new Probe(y, part, isTraceAsked));
        }
    }

    /** Each answer of a house, and of what it does then, is as that of another. */
    void alike(String what, Probe got, Probe want) {
        d.due(what + ", as many calls", got.calls.size(), want.calls.size());
        for (int i = 0; i < want.answers.size() && i < got.answers.size(); i++) {
            d.due(what + ", changed: " + want.calls.get(i), got.answers.get(i), want.answers.get(i));
        }
    }
}
