/** Promises 14 to 17: hours that pass, hours by draws, draws, the pull. */
public final class HoursTest {
    private static final Due d = new Due("HoursTest");
    private static final int MIN = Integer.MIN_VALUE;
    private static final int MAX = Integer.MAX_VALUE;

    public static void main(String[] args) {
        kinds();
        inOrder();
        breaking();
        limits();
        draws();
        pulls();
        d.end();
    }

    /** One THING alone in a CELL, PULL a WAY: where it comes to, and how far it FELL. */
    private static void falls(int km, int cell, int way, int to, int fell) {
        DownByTheHour x = new DownByTheHour();
        x.thing(km, cell);
        Due.text(x, 0, String.valueOf(way));
        x.hours(1);
        String what = "14: km " + km + " from " + cell + " by " + way;
        d.due(what + " comes to", x.thingIs(0, 2), to);
        d.due(what + " fell", x.thingIs(0, 4), fell);
        d.due(what + " broken", x.thingIs(0, 3), fell > 3 ? 1 : 0);
    }

    private static void kinds() {
        falls(0, 14, 0, 32, 3);
        falls(0, 14, 1, 12, 2);
        falls(0, 14, 2, 2, 2);
        falls(0, 14, 3, 17, 3);
        falls(0, 0, 0, 30, 5);
        falls(10, 14, 0, 31, 3);
        falls(10, 14, 1, 6, 2);
        falls(10, 14, 2, 3, 2);
        falls(10, 14, 3, 23, 3);
        falls(10, 30, 0, 30, 0);
        falls(20, 14, 0, 14, 0);
        falls(24, 14, 0, 14, 0);
        falls(28, 14, 0, 14, 0);
        falls(21, 14, 0, 32, 3);
        falls(21, 14, 1, 14, 0);
        falls(29, 14, 1, 14, 0);
        falls(27, 14, 3, 14, 0);
        falls(30, 14, 0, 20, 1);
        falls(30, 32, 0, 31, 0);
        falls(30, 30, 0, 30, 0);
        falls(30, 14, 2, 8, 1);
        falls(30, 2, 2, 3, 0);
        falls(30, 17, 3, 23, 0);
        falls(40, 14, 0, 30, 3);
        falls(40, 33, 0, 31, 0);
        falls(41, 14, 3, 29, 3);
        falls(50, 14, 0, 14, 0);
        falls(51, 14, 0, 14, 0);
        falls(52, 14, 0, 32, 3);
        falls(52, 14, 2, 14, 0);
        falls(53, 14, 1, 14, 0);
        falls(58, 14, 0, 14, 0);
        falls(58, 14, 1, 12, 2);
        falls(60, 14, 0, 2, 2);
        falls(60, 14, 1, 17, 3);
        falls(60, 14, 2, 32, 3);
        falls(69, 14, 3, 12, 2);
        ballTwice();
    }

    /** A BALL whose second fall is the greater, over an edge of a WALL. */
    private static void ballTwice() {
        DownByTheHour x = new DownByTheHour();
        x.wall(9, 1);
        x.thing(40, 3);
        x.hours(1);
        d.due("14: ball over an edge", x.thingIs(0, 2), 31);
        d.due("14: the greater of both", x.thingIs(0, 4), 5);
        DownByTheHour y = new DownByTheHour();
        y.wall(26, 1);
        y.thing(40, 2);
        y.hours(1);
        d.due("14: ball, two edges", y.thingIs(0, 2), 30);
        d.due("14: the first is the greater", y.thingIs(0, 4), 3);
    }

    private static void inOrder() {
        DownByTheHour x = new DownByTheHour();
        x.thing(0, 14);
        x.thing(0, 20);
        d.due("14: hours(1)", x.hours(1), 0);
        d.due("14: the first is stopped by the second", x.thingIs(0, 2), 14);
        d.due("14: the second falls", x.thingIs(1, 2), 32);
        x.hours(1);
        d.due("14: then the first falls upon it", x.thingIs(0, 2), 26);
        d.due("14: fell", x.thingIs(0, 4), 2);
        d.due("14: fell by the latest alone", x.thingIs(1, 4), 0);
        DownByTheHour y = new DownByTheHour();
        y.thing(0, 20);
        y.thing(0, 14);
        y.hours(1);
        d.due("14: the lower first", y.thingIs(0, 2), 32);
        d.due("14: both fall", y.thingIs(1, 2), 26);
        DownByTheHour z = new DownByTheHour();
        z.thing(0, 2);
        z.wall(20, 1);
        z.hours(3);
        d.due("14: a wall stops", z.thingIs(0, 2), 14);
        z.hours(3);
        d.due("14: left by three", z.thingIs(0, 2), 12);
        z.hours(3);
        d.due("14: ahead by six", z.thingIs(0, 2), 0);
        z.hours(3);
        d.due("14: right by nine", z.thingIs(0, 2), 5);
        d.due("14: HOUR", z.count(1), 12);
    }

    private static void breaking() {
        DownByTheHour x = new DownByTheHour();
        x.thing(0, 0);
        x.thing(0, 13);
        d.due("14: from five, not from three", x.hours(1), 1);
        d.due("14: 0 is", x.thingIs(0, 3), 1);
        d.due("14: 1 isn't", x.thingIs(1, 3), 0);
        d.due("14: stays so", x.hours(1), 1);
        d.due("14: FELL is of the latest", x.thingIs(0, 4), 0);
        DownByTheHour y = new DownByTheHour();
        Due.text(y, 1, "f=2&m=7&k=1");
        y.thing(17, 18);
        y.thing(16, 20);
        y.thing(7, 22);
        d.due("14: by its text", y.hours(1), 1);
        d.due("14: which", y.thingIs(0, 3), 1);
        DownByTheHour z = new DownByTheHour();
        Due.text(z, 1, "f=0");
        z.thing(0, 35);
        d.due("14: by not falling", z.hours(1), 1);
        Due.text(z, 0, "2");
        d.due("14: falls likewise", z.hours(1), 1);
        d.due("14: to", z.thingIs(0, 2), 5);
        DownByTheHour v = new DownByTheHour();
        Due.text(v, 0, "n+d");
        v.thing(0, 14);
        v.hours(1);
        d.due("14: n is how many", v.thingIs(0, 2), 12);
        v.clock(12);
        v.hours(1);
        d.due("14: d is HOUR by 12", v.thingIs(0, 2), 0);
    }

    private static void limits() {
        DownByTheHour x = new DownByTheHour();
        d.due("14: n 0", x.hours(0), Due.BEYOND);
        d.due("14: n 101", x.hours(101), Due.BEYOND);
        d.due("14: n MAX", x.hours(MAX), Due.BEYOND);
        d.due("14: n MIN", x.hours(MIN), Due.BEYOND);
        d.due("14: n 100", x.hours(100), 0);
        d.due("14: HOUR", x.count(1), 100);
        x.clock(9899);
        d.due("14: up to 9999", x.hours(100), 0);
        d.due("14: HOUR", x.count(1), 9999);
        d.due("14: above", x.hours(1), Due.STATE);
        x.clock(9900);
        d.due("14: above", x.hours(100), Due.STATE);
        d.due("14: HOUR stays", x.count(1), 9900);
        d.due("14: BEYOND ahead of STATE", x.hours(101), Due.BEYOND);
        d.due("15: n 0", x.shakes(0), Due.BEYOND);
        d.due("15: n 41", x.shakes(41), Due.BEYOND);
        d.due("15: n -1", x.shakes(-1), Due.BEYOND);
        d.due("15: n 40", x.shakes(40), 0);
        d.due("15: HOUR", x.count(1), 9940);
        x.clock(9960);
        d.due("15: above", x.shakes(40), Due.STATE);
        d.due("15: no draws", x.shakes(40), Due.STATE);
        d.due("15: up to 9999", x.shakes(39), 0);
        d.due("15: HOUR", x.count(1), 9999);
        d.due("15: BEYOND ahead of STATE", x.shakes(41), Due.BEYOND);
    }

    private static void draws() {
        DownByTheHour x = new DownByTheHour();
        x.thing(0, 14);
        int[] ends = {30, 0, 5, 35};
        int z = 1;
        d.due("16: was", x.seed(1), 1);
        for (int i = 0; i < 40; i++) {
            int from = x.thingIs(0, 2);
            z = z * 1103515245 + 12345;
            int way = z >>> 8 & 3;
            x.shakes(1);
            d.due("15: z", x.count(8), z);
            d.due("15: draw " + i, x.thingIs(0, 2), x.lands(from, way));
        }
        d.due("15: HOUR", x.count(1), 40);
        d.due("16: was", x.seed(MIN), z);
        d.due("16: was", x.seed(MAX), MIN);
        d.due("16: was", x.seed(-1000000001), MAX);
        d.due("16: was, though it looks like an ERROR", x.seed(0), -1000000001);
        d.due("16: no ERROR", x.told(1), 0);
        x.seed(12345);
        x.hours(3);
        x.then(0, 100);
        d.due("16: hours don't draw", x.count(8), 12345);
        DownByTheHour y = new DownByTheHour();
        y.thing(0, 14);
        y.seed(5);
        y.shakes(3);
        DownByTheHour w = new DownByTheHour();
        w.thing(0, 14);
        w.seed(5);
        w.shakes(1);
        w.shakes(2);
        d.due("15: as many by one as by several", y.thingIs(0, 2), w.thingIs(0, 2));
        d.due("15: z alike", y.count(8), w.count(8));
        DownByTheHour v = new DownByTheHour();
        v.thing(0, 0);
        v.seed(seedFor(0));
        d.due("15: what breaks", v.shakes(1), 1);
        d.due("15: ends", v.thingIs(0, 2), ends[0]);
    }

    /** A z by which the next draw's rest is a WAY. */
    private static int seedFor(int way) {
        for (int z = 0; z < 100000; z++) {
            if (((z * 1103515245 + 12345) >>> 8 & 3) == way) {
                return z;
            }
        }
        return 0;
    }

    private static void pulls() {
        DownByTheHour x = new DownByTheHour();
        d.due("17: 2", x.pull(2), 0);
        d.due("17: 3", x.pull(3), 1);
        d.due("17: 10", x.pull(10), 3);
        d.due("17: 9999", x.pull(9999), 1);
        d.due("17: 10000", x.pull(10000), Due.BEYOND);
        d.due("17: -1", x.pull(-1), Due.BEYOND);
        Due.text(x, 0, "d-n");
        d.due("17: d 0", x.pull(11), 0);
        d.due("17: d 1", x.pull(12), 1);
        x.thing(0, 0);
        d.due("17: n 1", x.pull(0), 3);
        x.clock(35);
        d.due("17: of HOUR", x.count(4), 1);
        d.due("17: HOUR is of no matter", x.pull(11), 3);
    }
}
