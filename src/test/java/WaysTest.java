/** Promises 22 to 27: ways by walls alone. */
public final class WaysTest {
    private static final Due d = new Due("WaysTest");
    private static final int MIN = Integer.MIN_VALUE;
    private static final int MAX = Integer.MAX_VALUE;

    public static void main(String[] args) {
        lands();
        sources();
        rooms();
        soonest();
        shut();
        together();
        fits();
        d.end();
    }

    /** The CELLS as a set. */
    private static long set(int... cells) {
        long set = 0;
        for (int cell : cells) {
            set |= 1L << cell;
        }
        return set;
    }

    private static DownByTheHour walled(int... cells) {
        DownByTheHour x = new DownByTheHour();
        for (int cell : cells) {
            x.wall(cell, 1);
        }
        return x;
    }

    private static void lands() {
        DownByTheHour x = walled(20);
        d.due("22: down", x.lands(2, 0), 14);
        d.due("22: left", x.lands(2, 1), 0);
        d.due("22: ahead", x.lands(32, 2), 26);
        d.due("22: right", x.lands(18, 3), 19);
        d.due("22: the whole row", x.lands(6, 3), 11);
        d.due("22: the whole column", x.lands(35, 2), 5);
        d.due("22: no next one", x.lands(35, 0), 35);
        d.due("22: no next one", x.lands(6, 1), 6);
        d.due("22: no next one", x.lands(11, 3), 11);
        x.thing(0, 8);
        d.due("22: as if there were no things", x.lands(2, 0), 14);
        d.due("22: wall", x.lands(20, 0), Due.STATE);
        d.due("22: way 4", x.lands(20, 4), Due.BEYOND);
        d.due("22: way -1", x.lands(2, -1), Due.BEYOND);
        d.due("22: cell 36", x.lands(36, 0), Due.BEYOND);
        d.due("22: cell -1", x.lands(-1, 0), Due.BEYOND);
    }

    private static void sources() {
        DownByTheHour x = walled(20, 25);
        d.due("23: left", x.sources(0, 1), set(0, 1, 2, 3, 4, 5));
        d.due("23: behind a wall", x.sources(21, 1), set(21, 22, 23));
        d.due("23: up to a wall", x.sources(32, 0), set(26, 32));
        d.due("23: down", x.sources(35, 0), set(5, 11, 17, 23, 29, 35));
        d.due("23: one goes on from there", x.sources(1, 1), 0);
        d.due("23: ahead", x.sources(31, 2), set(31));
        d.due("23: right", x.sources(24, 3), set(24));
        x.thing(0, 2);
        d.due("23: as if there were no things", x.sources(0, 1), set(0, 1, 2, 3, 4, 5));
        d.due("23: wall", x.sources(20, 0), Due.STATE);
        d.due("23: cell 36", x.sources(36, 0), Due.BEYOND);
        d.due("23: cell -1", x.sources(-1, 0), Due.BEYOND);
        d.due("23: way 4", x.sources(20, 4), Due.BEYOND);
        d.due("23: way -1", x.sources(0, -1), Due.BEYOND);
        d.due("23: cell MIN", x.sources(MIN, MAX), Due.BEYOND);
    }

    private static void rooms() {
        DownByTheHour x = walled(20);
        d.due("24: none pass", x.rooms(14, 0), set(14));
        d.due("24: upon the wall", x.rooms(14, 3), set(14));
        d.due("24: then left", x.rooms(14, 4), set(14, 12));
        d.due("24: ahead", x.rooms(14, 7), set(14, 12, 2, 0));
        d.due("24: right", x.rooms(14, 10), set(14, 12, 2, 0, 17, 5));
        x.clock(3);
        d.due("24: from now on", x.rooms(14, 1), set(14, 12));
        x.thing(0, 13);
        d.due("24: as if there were no things", x.rooms(14, 1), set(14, 12));
        d.due("24: wall", x.rooms(20, 0), Due.STATE);
        d.due("24: n 100", x.rooms(5, 100), set(5, 0, 30, 35));
        d.due("24: n -1", x.rooms(14, -1), Due.BEYOND);
        d.due("24: n 101", x.rooms(20, 101), Due.BEYOND);
        d.due("24: cell 36", x.rooms(36, 1), Due.BEYOND);
        d.due("24: cell -1", x.rooms(-1, 1), Due.BEYOND);
        Due.text(x, 0, "3*(h>9999)");
        x.clock(9999);
        d.due("24: HOUR beyond 9999", x.rooms(0, 2), set(0, 30, 35, 5));
        d.due("24: one hour", x.rooms(0, 1), set(0, 30));
        d.due("24: HOUR as it was", x.count(1), 9999);
    }

    private static void soonest() {
        DownByTheHour x = walled(20);
        d.due("25: there", x.soonest(14, 14), 0);
        d.due("25: left", x.soonest(14, 12), 4);
        d.due("25: ahead", x.soonest(14, 2), 7);
        d.due("25: by waiting", x.soonest(0, 5), 10);
        d.due("25: never", x.soonest(0, 8), Due.NONE);
        x.thing(0, 13);
        d.due("25: as if there were no things", x.soonest(14, 12), 4);
        d.due("25: to a wall", x.soonest(0, 20), Due.STATE);
        d.due("25: from a wall", x.soonest(20, 0), Due.STATE);
        d.due("25: from 36", x.soonest(36, 20), Due.BEYOND);
        d.due("25: to 36", x.soonest(20, 36), Due.BEYOND);
        d.due("25: from -1", x.soonest(-1, 0), Due.BEYOND);
        d.due("25: to -1", x.soonest(0, -1), Due.BEYOND);
        Due.text(x, 0, "3*(h=99)");
        d.due("25: by 100", x.soonest(0, 5), 100);
        d.due("26: by 100", x.shut(5) & set(0), 0);
        Due.text(x, 0, "3*(h=100)");
        d.due("25: not by 100", x.soonest(0, 5), Due.NONE);
        d.due("26: not by 100", x.shut(5) & set(0), set(0));
        Due.text(x, 0, "3*(h=0)");
        d.due("25: by this hour alone", x.soonest(0, 5), 1);
        d.due("26: by this hour alone", x.shut(5) & set(0), 0);
        Due.text(x, 0, "1");
        d.due("25: a hundred hours are not enough", x.soonest(0, 30), Due.NONE);
        x.clock(9999);
        Due.text(x, 0, "3*(h>9999)");
        d.due("25: HOUR beyond 9999", x.soonest(0, 35), 2);
    }

    private static void shut() {
        DownByTheHour x = new DownByTheHour();
        d.due("26: all get to a corner", x.shut(35), 0);
        d.due("26: none gets to the middle", x.shut(14), (1L << 36) - 1 - set(14));
        for (int cell : new int[] {1, 6, 7}) {
            x.wall(cell, 1);
        }
        d.due("26: a room of its own", x.shut(0), (1L << 36) - 1 - set(0, 1, 6, 7));
        d.due("26: nor from it", x.shut(35), set(0));
        x.thing(0, 34);
        d.due("26: as if there were no things", x.shut(35), set(0));
        d.due("26: a wall", x.shut(1), Due.STATE);
        d.due("26: cell 36", x.shut(36), Due.BEYOND);
        d.due("26: cell -1", x.shut(-1), Due.BEYOND);
    }

    /** SHUT and ROOMS tell the same as SOONEST and LANDS, from each CELL to each. */
    private static void together() {
        for (int to = 0; to < 36; to++) {
            DownByTheHour x = walled(3, 9, 13, 20, 28, 34, 18);
            Due.text(x, 0, "h*h+h/5+d");
            long shut = x.shut(to);
            for (int from = 0; from < 36; from++) {
                int soonest = x.soonest(from, to);
                boolean isWall = x.cellIs(from, 0) == 1 || x.cellIs(to, 0) == 1;
                if (soonest >= 0) {
                    d.due("24: in time", x.rooms(from, soonest) >>> to & 1, 1);
                    d.due("24: no sooner", soonest == 0 ? 0 : x.rooms(from, soonest - 1) >>> to & 1, 0);
                }
                d.due("26: shut", isWall ? 0 : shut >>> from & 1, soonest == Due.NONE ? 1 : 0);
                for (int way = 0; way < 4 && !isWall; way++) {
                    d.due("23: sources", x.sources(to, way) >>> from & 1, x.lands(from, way) == to ? 1 : 0);
                }
            }
        }
    }

    private static void fits() {
        DownByTheHour x = walled(20);
        Due.sheet(x, 0, 8, 0);
        d.due("27: one number", x.fits(0), 4095);
        Due.sheet(x, 0, 8, 0, 30);
        d.due("27: down", x.fits(0), 7);
        Due.sheet(x, 0, 16, 0, 30, 35);
        d.due("27: down, then right", x.fits(0), 0);
        Due.sheet(x, 1, 32, 2, 14, 12);
        d.due("27: down, then left", x.fits(1), 4);
        Due.sheet(x, 2, 32, 5, 0, 0, 0, 0, 5, 5, 5, 35);
        d.due("27: left, ahead, right, down", x.fits(2), 32);
        Due.sheet(x, 2, 32, 5, 0, 0, 0, 0, 0, 0, 5, 5, 5, 35);
        d.due("27: the same from 3 on", x.fits(2), 8);
        Due.sheet(x, 2, 8, 0, 0, 5);
        d.due("27: by 8 and 9", x.fits(2), 1 << 8);
        Due.sheet(x, 2, 8, 35, 35, 30);
        d.due("27: beyond hour 11", x.fits(2), 4);
        Due.sheet(x, 2, 8, 5, 5, 35);
        d.due("27: hour 12 is the first of the next day", x.fits(2), 1 << 11);
        x.clock(500);
        x.thing(0, 10);
        d.due("27: in place of its own HOUR, no things", x.fits(1), 4);
        Due.text(x, 0, "d");
        Due.sheet(x, 1, 32, 2, 14, 12);
        d.due("27: day by day", x.fits(1), 1 << 11);
        Due.sheet(x, 1, 32, 2, 99);
        d.due("27: the next is no cell", x.fits(1), 0);
        Due.sheet(x, 1, 32, 20);
        d.due("27: the first is a wall", x.fits(1), 0);
        Due.sheet(x, 1, 32, 36);
        d.due("27: the first is no cell", x.fits(1), 0);
        Due.sheet(x, 1, 32, -1, 0);
        d.due("27: below 0", x.fits(1), 0);
        Due.sheet(x, 1, 32, MIN);
        d.due("27: MIN", x.fits(1), 0);
        Due.sheet(x, 1, 8, 256);
        d.due("27: the lowest bits", x.fits(1), 4095);
        int[] still = new int[24];
        Due.sheet(x, 1, 8, still);
        Due.text(x, 0, "2");
        d.due("27: 24 numbers", x.fits(1), 4095);
        d.due("27: missing", x.fits(3), Due.NONE);
        Due.sheet(x, 3, 8);
        d.due("27: no number", x.fits(3), Due.NONE);
        d.due("27: no sheet 4", x.fits(4), Due.BEYOND);
        d.due("27: no sheet -1", x.fits(-1), Due.BEYOND);
    }
}
