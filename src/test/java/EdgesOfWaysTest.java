/** The edges of ways by WALLS alone: promises 22 to 27. */
public final class EdgesOfWaysTest {
    private static final Due d = new Due("EdgesOfWaysTest");
    private static final Edges e = new Edges(d);
    private static final long ALL = (1L << 36) - 1;
    private static final int MIN = Integer.MIN_VALUE;
    private static final int MAX = Integer.MAX_VALUE;

    public static void main(String[] args) {
        landsBounds();
        landsAtEdges();
        landsByWalls();
        sourcesBounds();
        sourcesAtEdges();
        roomsBounds();
        roomsByHundred();
        soonestBounds();
        soonestByHundred();
        shutBounds();
        shutByHundred();
        beyondTheLastHour();
        fitsBounds();
        fitsOfOneNumber();
        fitsFirstNumber();
        fitsHours();
        fitsOfTwentyFour();
        fitsDayByDay();
        d.end();
    }

    private static DownByTheHour walled(int... cells) {
        DownByTheHour x = new DownByTheHour();
        Houses.walls(x, cells);
        return x;
    }

    /** A house whose PULL is 3 by one HOUR alone, 0 else. */
    private static DownByTheHour pulledAt(int hour) {
        DownByTheHour x = new DownByTheHour();
        Houses.text(x, 0, "3*(h=" + hour + ")");
        return x;
    }

    private static long set(int... cells) {
        long set = 0;
        for (int cell : cells) {
            set |= 1L << cell;
        }
        return set;
    }

    /** The CELL at the edge that way, by rows and columns. */
    private static int edge(int cell, int way) {
        int[] edges = {30 + cell % 6, cell / 6 * 6, cell % 6, cell / 6 * 6 + 5};
        return edges[way];
    }

    // ---- promise 22

    private static void landsBounds() {
        e.bounds("22: cell", Houses::bare, 0, 35, (x, v) -> x.lands(v, 0));
        e.bounds("22: way", Houses::lived, 0, 3, (x, v) -> x.lands(0, v));
        e.refused("22: neither cell nor way", Houses::lived, Due.BEYOND, x -> x.lands(36, 4));
        e.refused("22: a WALL", Houses::lived, Due.STATE, x -> x.lands(7, 0));
        e.refused("22: BEYOND of way ahead of STATE", Houses::lived, Due.BEYOND, x -> x.lands(7, 4));
        e.refused("22: BEYOND of way below 0 ahead of STATE", Houses::lived, Due.BEYOND, x -> x.lands(7, -1));
        e.changesNothing("22: asked", Houses::lived, 30, x -> x.lands(0, 0));
        e.changesNothing("22: as if there were no THINGS", Houses::full, 35, x -> x.lands(30, 3));
    }

    private static void landsAtEdges() {
        DownByTheHour[] x = {new DownByTheHour(), new DownByTheHour(), new DownByTheHour(), new DownByTheHour()};
        for (int cell = 0; cell < 36; cell++) {
            for (int way = 0; way < 4; way++) {
                d.due("22: from " + cell + " by " + way, x[way].lands(cell, way), edge(cell, way));
            }
        }
    }

    /** A WALL next to one, and as far away as can be. */
    private static void landsByWalls() {
        for (int far = 1; far <= 5; far++) {
            d.due("22: down, " + far, walled(6 * far).lands(0, 0), 6 * (far - 1));
            d.due("22: right, " + far, walled(far).lands(0, 3), far - 1);
            d.due("22: ahead, " + far, walled(35 - 6 * far).lands(35, 2), 41 - 6 * far);
            d.due("22: left, " + far, walled(35 - far).lands(35, 1), 36 - far);
        }
        d.due("22: the first of two WALLS", walled(12, 24).lands(0, 0), 6);
        d.due("22: behind it", walled(12, 24).lands(18, 0), 18);
        d.due("22: a WALL beside is none in the way", walled(1, 7, 13, 19, 25, 31).lands(0, 0), 30);
        d.due("22: nor one behind", walled(6).lands(12, 0), 30);
    }

    // ---- promise 23

    private static void sourcesBounds() {
        e.bounds("23: cell", Houses::bare, 0, 35, (x, v) -> x.sources(v, 0));
        e.bounds("23: way", Houses::lived, 0, 3, (x, v) -> x.sources(0, v));
        e.refused("23: neither cell nor way", Houses::lived, Due.BEYOND, x -> x.sources(36, 4));
        e.refused("23: a WALL", Houses::lived, Due.STATE, x -> x.sources(7, 0));
        e.refused("23: the way of a WALL, BEYOND ahead of STATE", Houses::lived, Due.BEYOND, x -> x.sources(7, 4));
        e.changesNothing("23: asked", Houses::lived, set(0, 6, 12, 18, 24, 30), x -> x.sources(30, 0));
        e.changesNothing("23: no CELL", Houses::lived, 0, x -> x.sources(0, 0));
        d.due("23: an ERROR is a long below -1000000000", new DownByTheHour().sources(-1, 0), -1000000001L);
        d.due("23: STATE too", walled(0).sources(0, 0), -1000000003L);
    }

    private static void sourcesAtEdges() {
        for (int cell = 0; cell < 36; cell++) {
            DownByTheHour x = new DownByTheHour();
            for (int way = 0; way < 4; way++) {
                long want = 0;
                for (int from = 0; from < 36; from++) {
                    want |= edge(from, way) == cell ? 1L << from : 0;
                }
                d.due("23: of " + cell + " by " + way, x.sources(cell, way), want);
            }
        }
        d.due("23: up to a WALL, no WALL among them", walled(3).sources(2, 3), set(0, 1, 2));
        d.due("23: from the last WALL on", walled(3).sources(4, 1), set(4, 5));
        d.due("23: the highest bit", new DownByTheHour().sources(35, 3), set(30, 31, 32, 33, 34, 35));
    }

    // ---- promise 24

    private static void roomsBounds() {
        e.bounds("24: from", Houses::bare, 0, 35, (x, v) -> x.rooms(v, 1));
        e.bounds("24: n", Houses::lived, 0, 100, (x, v) -> x.rooms(0, v));
        e.bounds("24: n at the last HOUR", Houses::full, 0, 100, (x, v) -> x.rooms(0, v));
        e.refused("24: neither from nor n", Houses::lived, Due.BEYOND, x -> x.rooms(36, 101));
        e.refused("24: a WALL", Houses::lived, Due.STATE, x -> x.rooms(7, 0));
        e.refused("24: n of a WALL, BEYOND ahead of STATE", Houses::lived, Due.BEYOND, x -> x.rooms(7, 101));
        e.refused("24: n below 0 of a WALL", Houses::lived, Due.BEYOND, x -> x.rooms(7, -1));
        e.changesNothing("24: by none", Houses::lived, 1, x -> x.rooms(0, 0));
        e.changesNothing("24: the last CELL", Houses::full, 1L << 35, x -> x.rooms(35, 100));
        d.due("24: an ERROR is a long below -1000000000", new DownByTheHour().rooms(0, 101), -1000000001L);
        d.due("24: STATE too", walled(0).rooms(0, 0), -1000000003L);
    }

    private static void roomsByHundred() {
        d.due("24: by HOUR 0, none yet", pulledAt(0).rooms(0, 0), set(0));
        d.due("24: by HOUR 0", pulledAt(0).rooms(0, 1), set(0, 5));
        d.due("24: by HOUR 0, then below", pulledAt(0).rooms(0, 2), set(0, 5, 30, 35));
        d.due("24: by HOUR 99, not yet", pulledAt(99).rooms(0, 99), set(0, 30));
        d.due("24: by HOUR 99", pulledAt(99).rooms(0, 100), set(0, 30, 5, 35));
        d.due("24: not by HOUR 100", pulledAt(100).rooms(0, 100), set(0, 30));
        DownByTheHour x = pulledAt(100);
        x.clock(1);
        d.due("24: by HOUR 100 from 1 on", x.rooms(0, 100), set(0, 30, 5, 35));
        x.clock(101);
        d.due("24: HOUR 100 is over", x.rooms(0, 100), set(0, 30));
    }

    // ---- promise 25

    private static void soonestBounds() {
        e.bounds("25: from", Houses::bare, 0, 35, (x, v) -> x.soonest(v, 0));
        e.bounds("25: to", Houses::bare, 0, 35, (x, v) -> x.soonest(0, v));
        e.refused("25: neither from nor to", Houses::lived, Due.BEYOND, x -> x.soonest(-1, 36));
        e.refused("25: from a WALL", Houses::lived, Due.STATE, x -> x.soonest(7, 0));
        e.refused("25: to a WALL", Houses::lived, Due.STATE, x -> x.soonest(0, 7));
        e.refused("25: from a WALL to itself", Houses::lived, Due.STATE, x -> x.soonest(7, 7));
        e.refused("25: BEYOND of to ahead of STATE", Houses::lived, Due.BEYOND, x -> x.soonest(7, 36));
        e.refused("25: BEYOND of from ahead of STATE", Houses::lived, Due.BEYOND, x -> x.soonest(36, 7));
        e.refused("25: never", Houses::bare, Due.NONE, x -> x.soonest(0, 14));
        e.changesNothing("25: there one is", Houses::lived, 0, x -> x.soonest(35, 35));
    }

    private static void soonestByHundred() {
        d.due("25: behind 0", pulledAt(0).soonest(0, 0), 0);
        d.due("25: behind 1", pulledAt(0).soonest(0, 5), 1);
        d.due("25: behind 99", pulledAt(98).soonest(0, 5), 99);
        d.due("25: behind 100", pulledAt(99).soonest(0, 5), 100);
        e.refused("25: not by 100", () -> pulledAt(100), Due.NONE, x -> x.soonest(0, 5));
        DownByTheHour x = pulledAt(100);
        x.clock(1);
        d.due("25: by 100 from HOUR 1 on", x.soonest(0, 5), 100);
        x.clock(100);
        d.due("25: by 1 from HOUR 100 on", x.soonest(0, 5), 1);
        x.clock(101);
        d.due("25: HOUR 100 is over", x.soonest(0, 5), Due.NONE);
    }

    // ---- promise 26

    private static void shutBounds() {
        e.bounds("26: to", Houses::bare, 0, 35, (x, v) -> x.shut(v));
        e.refused("26: a WALL", Houses::lived, Due.STATE, x -> x.shut(7));
        e.refused("26: the last WALL", () -> walled(35), Due.STATE, x -> x.shut(35));
        e.changesNothing("26: none", Houses::bare, 0, x -> x.shut(0));
        e.changesNothing("26: all but itself", Houses::bare, ALL - set(14), x -> x.shut(14));
        e.changesNothing("26: no WALLS among them", () -> walled(0, 35), ALL - set(0, 14, 35), x -> x.shut(14));
        d.due("26: an ERROR is a long below -1000000000", new DownByTheHour().shut(36), -1000000001L);
        d.due("26: STATE too", walled(0).shut(0), -1000000003L);
    }

    private static void shutByHundred() {
        d.due("26: by the first HOUR", pulledAt(0).shut(5), ALL - set(0, 1, 2, 3, 4, 5));
        d.due("26: by the hundredth", pulledAt(99).shut(5), ALL - set(0, 1, 2, 3, 4, 5));
        d.due("26: not by the next", pulledAt(100).shut(5), ALL - set(5));
        d.due("26: by none but itself", pulledAt(9998).shut(5), ALL - set(5));
        DownByTheHour x = pulledAt(100);
        x.clock(1);
        d.due("26: by the hundredth from HOUR 1 on", x.shut(5), ALL - set(0, 1, 2, 3, 4, 5));
        DownByTheHour y = pulledAt(1);
        d.due("26: below by the first, right by the second", y.shut(35), 0);
        d.due("26: not in the other order", pulledAt(0).shut(35) & set(0, 30), 0);
        DownByTheHour z = new DownByTheHour();
        Houses.text(z, 0, "1");
        d.due("26: a hundred HOURS to the left lead no way down", z.shut(30), ALL - set(30, 31, 32, 33, 34, 35));
        d.due("24: nor by rooms", z.rooms(5, 100), set(0, 5));
        d.due("25: nor ever", z.soonest(5, 30), Due.NONE);
    }

    // ---- HOURS beyond the last one

    private static void beyondTheLastHour() {
        DownByTheHour x = new DownByTheHour();
        x.clock(9999);
        Houses.text(x, 0, "3*(h/100=100)");
        d.due("24: HOUR 10000 isn't the first", x.rooms(0, 1), set(0, 30));
        d.due("24: HOUR 10000 is the second", x.rooms(0, 2), set(0, 5, 30, 35));
        d.due("25: HOUR 10000 is the second", x.soonest(0, 5), 2);
        d.due("26: HOUR 10000 is by then", x.shut(5), ALL - set(0, 1, 2, 3, 4, 5));
        Houses.text(x, 0, "3*(h=9999+99)");
        d.due("24: HOUR 10098 is the hundredth", x.rooms(0, 100), set(0, 5, 30, 35));
        d.due("25: HOUR 10098 is the hundredth", x.soonest(0, 5), 100);
        d.due("26: HOUR 10098 is the hundredth", x.shut(5) & set(0), 0);
        Houses.text(x, 0, "3*(h=9999+100)");
        d.due("24: HOUR 10099 is too late", x.rooms(0, 100), set(0, 30));
        d.due("25: HOUR 10099 is too late", x.soonest(0, 5), Due.NONE);
        d.due("26: HOUR 10099 is too late", x.shut(5) & set(0), set(0));
        Houses.text(x, 0, "3*(d=834)");
        d.due("25: DAY 834 begins by HOUR 10008", x.soonest(0, 5), 10);
        d.due("25: HOUR is as it was", x.count(1), 9999);
    }

    // ---- promise 27

    private static void fitsBounds() {
        e.bounds("27: sheet", Houses::full, 0, 3, (x, v) -> x.fits(v));
        e.none("27: sheet, of none", Houses::bare, Due.BEYOND, (x, v) -> x.fits(v), -1, 4, MIN, MAX);
        e.none("27: all are missing", Houses::bare, Due.NONE, (x, v) -> x.fits(v), 0, 1, 2, 3);
        e.refused("27: missing", Houses::lived, Due.NONE, x -> x.fits(3));
        e.refused("27: no number", Houses::lived, Due.NONE, x -> x.fits(1));
        e.changesNothing("27: asked", Houses::lived, 0, x -> x.fits(0));
    }

    private static void fitsOfOneNumber() {
        int[] bits = {8, 16, 32};
        for (int ofBits : bits) {
            for (int cell = 0; cell < 36; cell++) {
                DownByTheHour x = walled(35 - cell);
                Due.sheet(x, 0, ofBits, cell);
                d.due("27: one number fits by all HOURS", x.fits(0), 4095);
                Due.sheet(x, 0, ofBits, 35 - cell);
                d.due("27: none if it is a WALL", x.fits(0), 0);
            }
        }
    }

    private static void fitsFirstNumber() {
        int[] none = {-1, 36, 64, 100, 127, MIN, MAX, -36};
        for (int v : none) {
            DownByTheHour x = new DownByTheHour();
            Due.sheet(x, 0, 32, v);
            e.taken("27: the first is no CELL", () -> x, Due.BEYOND, y -> y.fits(0));
            d.due("27: none, if the first is no CELL " + v, x.fits(0), 0);
            Due.sheet(x, 0, 32, v, 30);
            d.due("27: nor with more numbers, " + v, x.fits(0), 0);
            Due.sheet(x, 0, 32, 30, v);
            d.due("27: nor if the next is no CELL " + v, x.fits(0), 0);
        }
        DownByTheHour y = new DownByTheHour();
        Due.sheet(y, 0, 8, 256 + 35);
        d.due("27: the lowest 8 bits are a CELL", y.fits(0), 4095);
        Due.sheet(y, 0, 16, 256 + 35);
        d.due("27: the lowest 16 aren't", y.fits(0), 0);
        Due.sheet(y, 0, 16, 65536 + 35);
        d.due("27: the lowest 16 are", y.fits(0), 4095);
        Due.sheet(y, 0, 32, 65536 + 35);
        d.due("27: all 32 aren't", y.fits(0), 0);
        y.wall(30, 1);
        Due.sheet(y, 0, 8, 24, 30);
        d.due("27: a WALL as the next one", y.fits(0), 0);
    }

    /** From HOUR 0 and 11 on, not from 12, and with HOURS behind 11. */
    private static void fitsHours() {
        for (int hour = 0; hour <= 36; hour++) {
            DownByTheHour x = new DownByTheHour();
            Houses.text(x, 0, "3*(h=" + hour + ")");
            Due.sheet(x, 0, 8, 30, 35);
            d.due("27: from HOUR " + hour + " on", x.fits(0), hour < 12 ? 1 << hour : 0);
            Due.sheet(x, 0, 8, 30, 30);
            d.due("27: not from HOUR " + hour + " on", x.fits(0), hour < 12 ? 4095 - (1 << hour) : 4095);
            Due.sheet(x, 0, 8, 30, 30, 35);
            d.due("27: ahead of HOUR " + hour, x.fits(0), hour >= 1 && hour <= 12 ? 1 << hour - 1 : 0);
        }
        DownByTheHour y = pulledAt(5);
        y.clock(5);
        Due.sheet(y, 0, 8, 30, 35);
        d.due("27: in place of its own HOUR", y.fits(0), 32);
        d.due("27: which stays", y.count(1), 5);
    }

    /** The last of 24 numbers counts, from each HOUR: PULL is 3 at one HOUR from 22 to 33. */
    private static void fitsOfTwentyFour() {
        for (int hour = 22; hour <= 33; hour++) {
            DownByTheHour x = pulledAt(hour);
            int[] cells = new int[24];
            java.util.Arrays.fill(cells, 30);
            cells[23] = 35;
            Due.sheet(x, 3, 8, cells);
            d.due("27: twenty-four numbers, HOUR " + hour, x.fits(3), 1 << hour - 22);
            cells[23] = 30;
            Due.sheet(x, 3, 32, cells);
            int want = 4095;
            for (int start = 0; start < 12; start++) {
                want -= hour >= start && hour < start + 23 ? 1 << start : 0;
            }
            d.due("27: the others, HOUR " + hour, x.fits(3), want);
        }
    }

    private static void fitsDayByDay() {
        DownByTheHour x = new DownByTheHour();
        Houses.text(x, 0, "d");
        Due.sheet(x, 0, 8, 17, 35, 30);
        d.due("27: HOUR 11 is the last of DAY 0", x.fits(0), 1 << 11);
        Due.sheet(x, 0, 8, 17, 35, 35, 30, 30);
        d.due("27: HOUR 12 is the first of DAY 1", x.fits(0), 1 << 10);
        DownByTheHour y = Houses.full();
        Due.sheet(y, 0, 8, 30, 30);
        d.due("27: as if there were no THINGS", y.fits(0), 4095);
        Due.sheet(y, 0, 8, 24, 30);
        d.due("27: as if there were none in the way", y.fits(0), 4095);
    }
}
