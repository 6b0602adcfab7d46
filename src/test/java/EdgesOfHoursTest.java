/** The edges of an HOUR, of KINDS that FALL, of DRAWS, and of promises 14 to 17. */
public final class EdgesOfHoursTest {
    private static final Due d = new Due("EdgesOfHoursTest");
    private static final Edges e = new Edges(d);
    private static final int MIN = Integer.MIN_VALUE;
    private static final int MAX = Integer.MAX_VALUE;

    public static void main(String[] args) {
        thingsAtEdges();
        walkersAtEdges();
        smokeAtEdges();
        screwedByM();
        boltedByM();
        rollersAtEdges();
        ballsAtEdges();
        ballsGreater();
        hemmedIn();
        betweenTwo();
        breaksAboveThree();
        staysBroken();
        noThings();
        sixThings();
        hoursBounds();
        hoursToTheLast();
        shakesBounds();
        shakesToTheLast();
        drawsWrap();
        manyDraws();
        seedBounds();
        pullBounds();
        days();
        howManyThings();
        d.end();
    }

    private static DownByTheHour pulled(int way) {
        DownByTheHour x = new DownByTheHour();
        Houses.text(x, 0, String.valueOf(way));
        return x;
    }

    private static DownByTheHour at(int hour) {
        DownByTheHour x = Houses.lived();
        x.clock(hour);
        return x;
    }

    /** How many CELLS there are behind one by a WAY, up to the edge. */
    private static int behind(int cell, int way) {
        int[] all = {5 - cell / 6, cell % 6, cell / 6, 5 - cell % 6};
        return all[way];
    }

    private static int steps(int cell, int way, int n) {
        int[] step = {6, -1, -6, 1};
        return cell + n * step[way];
    }

    /** A THING of a KIND alone in a house without WALLS: where it comes to by an HOUR, and how far it FELL. */
    private static void falls(int km, int cell, int way, int to, int fell) {
        DownByTheHour x = pulled(way);
        x.thing(km, cell);
        x.hours(1);
        String what = "14: km " + km + " in " + cell + " by " + way;
        d.due(what + ", comes to", x.thingIs(0, 2), to);
        d.due(what + ", FELL", x.thingIs(0, 4), fell);
        d.due(what + ", lies there", x.cellIs(to, 1), 0);
        d.due(what + ", lies nowhere else", to == cell ? -1 : x.cellIs(cell, 1), -1);
    }

    // ---- KINDS

    private static void thingsAtEdges() {
        for (int cell = 0; cell < 36; cell++) {
            for (int way = 0; way < 4; way++) {
                int far = behind(cell, way);
                falls(0, cell, way, steps(cell, way, far), far);
                falls(9, cell, way, steps(cell, way, far), far);
            }
        }
    }

    /** 1 CELL, or if it can't, 1 by the WAY behind: behind 3 comes 0. */
    private static void walkersAtEdges() {
        for (int cell = 0; cell < 36; cell++) {
            for (int way = 0; way < 4; way++) {
                int beside = (way + 1) % 4;
                if (behind(cell, way) > 0) {
                    falls(33, cell, way, steps(cell, way, 1), 1);
                } else {
                    falls(33, cell, way, steps(cell, beside, Math.min(1, behind(cell, beside))), 0);
                }
            }
        }
    }

    /** Against PULL 2 comes 0, against 3 comes 1. */
    private static void smokeAtEdges() {
        for (int cell = 0; cell < 36; cell++) {
            for (int way = 0; way < 4; way++) {
                int against = (way + 2) % 4;
                int far = behind(cell, against);
                falls(60, cell, way, steps(cell, against, far), far);
            }
        }
    }

    private static void screwedByM() {
        for (int m = 0; m <= 9; m++) {
            for (int way = 0; way < 4; way++) {
                int far = way == m % 4 ? 0 : behind(15, way);
                falls(20 + m, 15, way, steps(15, way, far), far);
            }
        }
    }

    private static void boltedByM() {
        for (int m = 0; m <= 9; m++) {
            for (int way = 0; way < 4; way++) {
                int far = m % 2 == 1 || way == m % 4 ? 0 : behind(15, way);
                falls(50 + m, 15, way, steps(15, way, far), far);
            }
        }
    }

    /** What rolls to the side doesn't count, and behind WAY 3 comes 0. */
    private static void rollersAtEdges() {
        for (int cell = 0; cell < 36; cell++) {
            for (int way = 0; way < 4; way++) {
                int far = behind(cell, way);
                int below = steps(cell, way, far);
                int beside = (way + 1) % 4;
                falls(14, cell, way, steps(below, beside, Math.min(1, behind(below, beside))), far);
            }
        }
    }

    /** Twice, of which the second leads on to the side alone where there are no WALLS. */
    private static void ballsAtEdges() {
        for (int cell = 0; cell < 36; cell++) {
            for (int way = 0; way < 4; way++) {
                int far = behind(cell, way);
                int below = steps(cell, way, far);
                int beside = (way + 1) % 4;
                falls(42, cell, way, steps(below, beside, Math.min(2, behind(below, beside))), far);
            }
        }
    }

    /** Of the two falls of a BALL the greater counts, be it the first or the second; neither is added. */
    private static void ballsGreater() {
        for (int edge = 0; edge <= 5; edge++) {
            DownByTheHour x = new DownByTheHour();
            if (edge < 5) {
                x.wall(9 + 6 * edge, 1);
            }
            x.thing(42, 3);
            x.hours(1);
            int first = edge;
            int second = 5 - edge;
            d.due("14: a BALL over an edge behind " + edge, x.thingIs(0, 4), Math.max(first, second));
            d.due("14: is below", x.thingIs(0, 2), 31);
        }
    }

    /** WALLS on all sides, or THINGS on all sides: none FALLS, of any KIND. */
    private static void hemmedIn() {
        for (int km = 0; km <= 69; km++) {
            for (int way = 0; way < 4; way++) {
                DownByTheHour x = pulled(way);
                Houses.walls(x, 8, 13, 15, 20);
                x.thing(km, 14);
                x.hours(3);
                d.due("14: WALLS all round " + km + " by " + way, x.thingIs(0, 2), 14);
                d.due("14: it FELL 0, " + km + " by " + way, x.thingIs(0, 4), 0);
                DownByTheHour y = pulled(way);
                y.thing(km, 14);
                int[] round = {8, 13, 15, 20};
                for (int cell : round) {
                    y.thing(50 + 1, cell);
                }
                y.hours(3);
                d.due("14: THINGS all round " + km + " by " + way, y.thingIs(0, 2), 14);
                d.due("14: it FELL 0 among them, " + km + " by " + way, y.thingIs(0, 4), 0);
            }
        }
    }

    /** Up to a WALL, and up to a THING, from as far as can be and from next to it. */
    private static void betweenTwo() {
        for (int wall = 0; wall <= 1; wall++) {
            int[] to = {34, 28, 22, 16, 10};
            for (int i = 0; i < to.length; i++) {
                DownByTheHour x = pulled(0);
                x.thing(0, 4);
                if (wall == 1) {
                    x.wall(i == 0 ? 0 : to[i] + 6, 1);
                } else {
                    x.thing(51, i == 0 ? 0 : to[i] + 6);
                }
                x.hours(1);
                d.due("14: up to " + to[i], x.thingIs(0, 2), to[i]);
                d.due("14: by so many CELLS", x.thingIs(0, 4), 5 - i);
            }
            DownByTheHour y = pulled(0);
            y.thing(0, 4);
            y.thing(14, 3);
            if (wall == 1) {
                y.wall(10, 1);
                y.wall(32, 1);
            } else {
                y.thing(51, 10);
                y.thing(51, 32);
            }
            y.hours(1);
            d.due("14: next to it by none", y.thingIs(0, 4), 0);
            d.due("14: a ROLLER can't to the side", y.thingIs(1, 2), 33);
            d.due("14: it FELL", y.thingIs(1, 4), 5);
        }
    }

    // ---- what BREAKS

    private static void breaksAboveThree() {
        for (int far = 0; far <= 5; far++) {
            DownByTheHour x = new DownByTheHour();
            x.thing(9, 30 - 6 * far);
            d.due("14: how many are BROKEN by " + far, x.hours(1), far > 3 ? 1 : 0);
            d.due("14: FELL " + far, x.thingIs(0, 4), far);
            d.due("14: BROKEN by " + far, x.thingIs(0, 3), far > 3 ? 1 : 0);
            d.due("39: count by " + far, x.count(2), far > 3 ? 1 : 0);
        }
        for (int far = 0; far <= 5; far++) {
            DownByTheHour y = new DownByTheHour();
            y.seed(seedFor(0));
            y.thing(9, 30 - 6 * far);
            d.due("15: how many are BROKEN by " + far, y.shakes(1), far > 3 ? 1 : 0);
            d.due("15: FELL " + far, y.thingIs(0, 4), far);
        }
    }

    private static void staysBroken() {
        DownByTheHour x = new DownByTheHour();
        x.thing(0, 0);
        x.thing(0, 31);
        d.due("14: one is BROKEN", x.hours(1), 1);
        Houses.text(x, 1, "0");
        d.due("14: it stays so where nothing BREAKS", x.hours(100), 1);
        d.due("15: nor by draws", x.shakes(40), 1);
        x.become(0, 69);
        x.carry(0, 14);
        d.due("14: nor as one of another KIND", x.hours(1), 1);
        d.due("14: the other isn't", x.thingIs(1, 3), 0);
        Houses.text(x, 1, "f<0");
        d.due("14: f is never below 0", x.hours(30), 1);
        Houses.text(x, 1, "f=0|1");
        d.due("14: both are", x.hours(1), 2);
        Houses.text(x, 1, "0");
        d.due("14: and stay so", x.hours(1), 2);
    }

    private static void noThings() {
        DownByTheHour x = new DownByTheHour();
        Houses.text(x, 1, "1");
        d.due("14: none of none is BROKEN", x.hours(100), 0);
        d.due("15: nor by draws", x.shakes(40), 0);
        d.due("14: HOUR all the same", x.count(1), 140);
        d.due("15: draws all the same", x.count(8) == 1 ? 1 : 0, 0);
    }

    private static void sixThings() {
        DownByTheHour x = new DownByTheHour();
        for (int i = 0; i < 6; i++) {
            x.thing(0, i);
        }
        d.due("14: all six are BROKEN", x.hours(1), 6);
        d.due("39: six", x.count(2), 6);
        for (int i = 0; i < 6; i++) {
            d.due("14: " + i + " lies below", x.thingIs(i, 2), 30 + i);
            d.due("14: " + i + " FELL", x.thingIs(i, 4), 5);
        }
        d.due("14: six stay six", x.hours(1), 6);
        d.due("14: the last FELL 0", x.thingIs(5, 4), 0);
    }

    // ---- promise 14

    private static void hoursBounds() {
        e.bounds("14: n", Houses::lived, 1, 100, (x, v) -> x.hours(v));
        e.none("14: n at the last HOUR, BEYOND ahead of STATE", Houses::full, Due.BEYOND, (x, v) -> x.hours(v),
            0, -1, 101, MIN, MAX);
        DownByTheHour x = new DownByTheHour();
        x.thing(30, 14);
        x.hours(1);
        d.due("14: one HOUR", x.thingIs(0, 2), 20);
        d.due("14: HOUR is 1 more", x.count(1), 1);
        x.hours(1);
        d.due("14: one more", x.thingIs(0, 2), 26);
        x.hours(100);
        d.due("14: HOUR is 100 more", x.count(1), 102);
    }

    private static void hoursToTheLast() {
        int[] ns = {1, 2, 50, 99, 100};
        for (int n : ns) {
            e.taken("14: to 9999 by " + n, () -> at(9999 - n), Due.STATE, x -> x.hours(n));
            e.refused("14: above 9999 by " + n, () -> at(10000 - n), Due.STATE, x -> x.hours(n));
            e.refused("14: above 9999 from 9999 by " + n, Houses::full, Due.STATE, x -> x.hours(n));
            DownByTheHour y = at(9999 - n);
            y.hours(n);
            d.due("14: HOUR is the last, by " + n, y.count(1), 9999);
        }
        DownByTheHour z = new DownByTheHour();
        Houses.text(z, 0, "3*(h=9998)");
        z.thing(0, 30);
        z.clock(9998);
        z.hours(1);
        d.due("14: the last HOUR that passes is 9998", z.thingIs(0, 2), 35);
    }

    // ---- promise 15

    private static void shakesBounds() {
        e.bounds("15: n", Houses::lived, 1, 40, (x, v) -> x.shakes(v));
        e.none("15: n at the last HOUR, BEYOND ahead of STATE", Houses::full, Due.BEYOND, (x, v) -> x.shakes(v),
            0, -1, 41, 100, MIN, MAX);
    }

    private static void shakesToTheLast() {
        int[] ns = {1, 2, 39, 40};
        for (int n : ns) {
            e.taken("15: to 9999 by " + n, () -> at(9999 - n), Due.STATE, x -> x.shakes(n));
            e.refused("15: above 9999 by " + n, () -> at(10000 - n), Due.STATE, x -> x.shakes(n));
            e.refused("15: above 9999 from 9999 by " + n, Houses::full, Due.STATE, x -> x.shakes(n));
            DownByTheHour y = at(9999 - n);
            y.shakes(n);
            d.due("15: HOUR is the last, by " + n, y.count(1), 9999);
        }
        DownByTheHour z = at(9960);
        z.seed(5);
        z.shakes(40);
        d.due("15: no draw was made", z.count(8), 5);
    }

    private static int next(int z) {
        return z * 1103515245 + 12345;
    }

    /** A z by which the next draw's rest is a WAY. */
    private static int seedFor(int way) {
        int z = 0;
        while ((next(z) >>> 8) % 4 != way) {
            z++;
        }
        return z;
    }

    /** z wraps as an int; a draw is z >>> 8, which is not below 0, also where z is. */
    private static void drawsWrap() {
        int[] seeds = {MIN, MIN + 1, -1, 0, 1, 2, 3, 77, 1 << 30, MAX - 1, MAX, 1103515245, -12345};
        int below = 0;
        for (int seed : seeds) {
            for (int i = 0; i < 8; i++) {
                DownByTheHour x = new DownByTheHour();
                x.thing(0, 14);
                x.seed(seed + i);
                x.shakes(1);
                int z = next(seed + i);
                int[] to = {32, 12, 2, 17};
                below += z < 0 ? 1 : 0;
                d.due("15: z behind " + (seed + i), x.count(8), z);
                d.due("15: the draw behind " + (seed + i), x.thingIs(0, 2), to[(z >>> 8) % 4]);
            }
        }
        d.due("15: some z are below 0", below > 10 ? 1 : 0, 1);
        DownByTheHour y = new DownByTheHour();
        y.thing(0, 14);
        Houses.text(y, 0, "0");
        y.seed(seedFor(2));
        y.shakes(1);
        d.due("15: in place of its own PULL", y.thingIs(0, 2), 2);
        d.due("15: BREAKS goes by how far it FELL", y.thingIs(0, 4), 2);
    }

    private static void manyDraws() {
        DownByTheHour x = new DownByTheHour();
        int z = 1;
        for (int n = 1; n <= 40; n++) {
            x.shakes(n);
            for (int i = 0; i < n; i++) {
                z = next(z);
            }
            d.due("15: a draw for each HOUR, " + n, x.count(8), z);
        }
        d.due("15: HOUR", x.count(1), 820);
    }

    // ---- promise 16

    private static void seedBounds() {
        int[] any = {MIN, MIN + 1, -1000000001, -1000000002, -1000000006, -1, 0, 1, MAX - 1, MAX};
        DownByTheHour x = new DownByTheHour();
        int was = 1;
        for (int v : any) {
            d.due("16: what it was ahead of " + v, x.seed(v), was);
            d.due("39: z is any number, " + v, x.count(8), v);
            was = v;
        }
        d.due("16: the last", x.seed(0), MAX);
        for (int k = 1; k <= 6; k++) {
            d.due("16: no ERROR is told, " + k, x.told(k), 0);
        }
        e.changesNothing("16: the z that it is", Houses::lived, 77, y -> y.seed(77));
    }

    // ---- promise 17

    private static void pullBounds() {
        e.bounds("17: hour", Houses::lived, 0, 9999, (x, v) -> x.pull(v));
        e.bounds("17: hour, at the last HOUR", Houses::full, 0, 9999, (x, v) -> x.pull(v));
        e.bounds("17: hour, without a TEXT", Houses::bare, 0, 9999, (x, v) -> x.pull(v));
        e.changesNothing("17: asked", Houses::lived, 1, x -> x.pull(2));
        DownByTheHour x = new DownByTheHour();
        for (int hour = 0; hour <= 36; hour++) {
            d.due("17: without a TEXT of " + hour, x.pull(hour), hour / 3 % 4);
        }
        d.due("17: the last but one", x.pull(9998), 9998 / 3 % 4);
        d.due("17: the last", x.pull(9999), 9999 / 3 % 4);
        Houses.text(x, 0, "0-h");
        for (int hour = 0; hour <= 8; hour++) {
            d.due("17: from below 0 on 4 more, " + hour, x.pull(hour), (12 - hour) % 4);
        }
    }

    /** DAY is HOUR by 12, cut. */
    private static void days() {
        DownByTheHour x = new DownByTheHour();
        Houses.text(x, 0, "d");
        int[] hours = {0, 11, 12, 23, 24, 35, 36, 47, 48, 9995, 9996, 9999};
        for (int hour : hours) {
            d.due("17: DAY of " + hour, x.pull(hour), hour / 12 % 4);
            x.clock(hour);
            d.due("39: DAY of " + hour, x.count(4), hour / 12 % 4);
        }
        DownByTheHour y = new DownByTheHour();
        Houses.text(y, 0, "3*(d=1)");
        y.thing(0, 30);
        y.hours(12);
        d.due("14: none of the DAY 0 is of the DAY 1", y.thingIs(0, 2), 30);
        y.hours(1);
        d.due("14: HOUR 12 is", y.thingIs(0, 2), 35);
    }

    /** n is how many THINGS there are: none, up to six. */
    private static void howManyThings() {
        DownByTheHour x = new DownByTheHour();
        Houses.text(x, 0, "n");
        for (int n = 0; n < 6; n++) {
            d.due("17: n is " + n, x.pull(5), n % 4);
            x.thing(51, n);
        }
        d.due("17: n is 6", x.pull(5), 2);
        x.thing(51, 6);
        d.due("17: no seventh", x.pull(5), 2);
    }
}
