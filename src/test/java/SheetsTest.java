/** Promises 30 to 34: sheets, what is put and moved, walls and pulls told by them. */
public final class SheetsTest {
    private static final Due d = new Due("SheetsTest");
    private static final int MIN = Integer.MIN_VALUE;
    private static final int MAX = Integer.MAX_VALUE;

    public static void main(String[] args) {
        sheets();
        putting();
        moving();
        movingWrong();
        walls();
        judging();
        d.end();
    }

    private static void sheets() {
        DownByTheHour x = new DownByTheHour();
        d.due("30: 8 bits", x.sheet(0, 8, 24), 1);
        d.due("30: 16 bits", x.sheet(1, 16, 0), 1);
        d.due("30: 32 bits", x.sheet(3, 32, 1), 1);
        d.due("30: all 0", x.walls(0), 24);
        d.due("30: no number", x.judge(1), 0);
        d.due("30: sheet 4", x.sheet(4, 8, 1), Due.BEYOND);
        d.due("30: sheet -1", x.sheet(-1, 8, 1), Due.BEYOND);
        d.due("30: 7 bits", x.sheet(0, 7, 1), Due.BEYOND);
        d.due("30: 64 bits", x.sheet(0, 64, 1), Due.BEYOND);
        d.due("30: -8 bits", x.sheet(0, -8, 1), Due.BEYOND);
        d.due("30: n -1", x.sheet(0, 8, -1), Due.STATE);
        d.due("30: n MIN", x.sheet(0, 8, MIN), Due.STATE);
        d.due("30: n 25", x.sheet(0, 8, 25), Due.BEYOND);
        d.due("30: n MAX", x.sheet(0, 8, MAX), Due.BEYOND);
        d.due("30: BEYOND of bits ahead of STATE", x.sheet(0, 9, -1), Due.BEYOND);
        d.due("30: BEYOND of the sheet ahead of STATE", x.sheet(4, 8, -1), Due.BEYOND);
        d.due("30: it stays", x.put(0, 23, 1), 1);
        d.due("30: missing, n doesn't matter", x.sheet(0, 0, -1), 1);
        d.due("30: it is missing", x.judge(0), Due.NONE);
        d.due("30: missing, n doesn't matter", x.sheet(0, 0, 99), 1);
        d.due("30: missing, no such sheet", x.sheet(4, 0, 0), Due.BEYOND);
        Due.sheet(x, 0, 8, 1, 1, 1);
        x.sheet(0, 8, 3);
        x.walls(0);
        d.due("30: all 0 again", x.count(3), 0);
        Due.sheet(x, 0, 8, 1, 1, 1);
        x.sheet(0, 0, 0);
        x.sheet(0, 8, 3);
        x.walls(0);
        d.due("30: all 0 behind missing", x.count(3), 0);
    }

    private static void putting() {
        DownByTheHour x = new DownByTheHour();
        d.due("31: missing", x.put(0, 0, 1), Due.NONE);
        d.due("31: missing ahead of no number", x.put(0, 99, 1), Due.NONE);
        x.sheet(0, 8, 2);
        d.due("31: the last", x.put(0, 1, 1), 1);
        d.due("31: no such number", x.put(0, 2, 1), Due.BEYOND);
        d.due("31: -1", x.put(0, -1, 1), Due.BEYOND);
        d.due("31: MAX", x.put(0, MAX, 1), Due.BEYOND);
        d.due("31: sheet 4", x.put(4, 0, 1), Due.BEYOND);
        d.due("31: sheet -1", x.put(-1, 0, 1), Due.BEYOND);
        x.walls(0);
        d.due("31: where", x.cellIs(1, 0), 1);
        d.due("31: not where not", x.cellIs(0, 0), 0);
        lowest(8, 0x101, 1);
        lowest(8, 0x100, 1);
        lowest(8, 0x81, 0);
        lowest(8, 0x80000001, 1);
        lowest(16, 0x101, 0);
        lowest(16, 0x10001, 1);
        lowest(16, 0xFFFF0000, 1);
        lowest(32, 0x10001, 0);
        lowest(32, 0x80000000, 0);
        lowest(32, 1, 1);
    }

    /** Whether a number, by its lowest bits, is 0 or 1. */
    private static void lowest(int bits, int v, int isSo) {
        DownByTheHour x = new DownByTheHour();
        Due.sheet(x, 2, bits, v);
        d.due("31: " + v + " by " + bits, x.walls(2), isSo);
    }

    private static void moving() {
        DownByTheHour x = new DownByTheHour();
        Due.sheet(x, 0, 8, 1, 0, 1, 1, 0, 0);
        x.sheet(1, 8, 6);
        d.due("32: three", x.move(0, 1, 1, 3, 3), 3);
        told(x, 1, 0, 0, 0, 0, 1, 1);
        told(x, 0, 1, 0, 1, 1, 0, 0);
        d.due("32: in itself, onwards", x.move(0, 0, 0, 1, 5), 5);
        told(x, 0, 1, 1, 0, 1, 1, 0);
        d.due("32: in itself, backwards", x.move(0, 1, 0, 0, 5), 5);
        told(x, 0, 1, 0, 1, 1, 0, 0);
        d.due("32: all", x.move(0, 0, 1, 0, 6), 6);
        told(x, 1, 1, 0, 1, 1, 0, 0);
        d.due("32: none", x.move(0, 6, 1, 6, 0), 0);
        Due.sheet(x, 2, 32, 3, MIN, 1);
        Due.sheet(x, 3, 32, 0, 0, 0);
        d.due("32: 32 bits", x.move(2, 0, 3, 0, 3), 3);
        d.due("32: whole", x.walls(3), 0);
    }

    /** The numbers of a SHEET, told by the WALLS that they make. */
    private static void told(DownByTheHour x, int sheet, int... want) {
        x.walls(sheet);
        for (int i = 0; i < want.length; i++) {
            d.due("32: sheet " + sheet + " number " + i, x.cellIs(i, 0), want[i]);
        }
    }

    private static void movingWrong() {
        DownByTheHour x = new DownByTheHour();
        x.sheet(0, 8, 4);
        x.sheet(1, 8, 6);
        x.sheet(2, 16, 4);
        d.due("32: sheet 4", x.move(4, 0, 0, 0, 1), Due.BEYOND);
        d.due("32: other 4", x.move(0, 0, 4, 0, 1), Due.BEYOND);
        d.due("32: sheet -1", x.move(-1, 0, 3, 0, 1), Due.BEYOND);
        d.due("32: missing", x.move(0, 0, 3, 0, 1), Due.NONE);
        d.due("32: missing", x.move(3, 0, 0, 0, 1), Due.NONE);
        d.due("32: NONE ahead of BEYOND", x.move(3, -1, 0, 0, 1), Due.NONE);
        d.due("32: KIND", x.move(0, 0, 2, 0, 1), Due.KIND);
        d.due("32: KIND, none", x.move(0, 0, 2, 0, 0), Due.KIND);
        d.due("32: KIND ahead of BEYOND", x.move(0, -1, 2, 0, 1), Due.KIND);
        d.due("32: i -1", x.move(0, -1, 1, 0, 1), Due.BEYOND);
        d.due("32: j -1", x.move(0, 0, 1, -1, 1), Due.BEYOND);
        d.due("32: n -1", x.move(0, 1, 1, 1, -1), Due.BEYOND);
        d.due("32: don't stand there", x.move(0, 2, 1, 0, 3), Due.BEYOND);
        d.due("32: nor there", x.move(0, 0, 1, 3, 4), Due.BEYOND);
        d.due("32: n 5 of 4", x.move(0, 0, 1, 0, 5), Due.BEYOND);
        d.due("32: n MAX", x.move(0, 1, 1, 1, MAX), Due.BEYOND);
        d.due("32: i MAX", x.move(0, MAX, 1, 1, 1), Due.BEYOND);
        d.due("32: i MAX, j MAX, n MAX", x.move(0, MAX, 1, MAX, MAX), Due.BEYOND);
        d.due("32: i 5 of 4, none", x.move(0, 5, 1, 0, 0), Due.BEYOND);
        d.due("32: told", x.told(1), 13);
        d.due("32: told", x.told(5), 3);
    }

    private static void walls() {
        DownByTheHour x = new DownByTheHour();
        x.wall(4, 1);
        x.thing(0, 5);
        x.thing(0, 2);
        Due.sheet(x, 0, 8, 1, 1, 0, 1, 0, 1, 1);
        d.due("33: up to the thing", x.walls(0), 5);
        int[] want = {1, 1, 0, 1, 0, 0, 0};
        for (int i = 0; i < want.length; i++) {
            d.due("33: cell " + i, x.cellIs(i, 0), want[i]);
        }
        d.due("33: no ERROR", x.told(3), 0);
        Due.sheet(x, 0, 16, 0, 0, 0, 2, 1);
        d.due("33: up to what is neither", x.walls(0), 3);
        d.due("33: 3 as it was", x.cellIs(3, 0), 1);
        d.due("33: 0 away", x.cellIs(0, 0), 0);
        Due.sheet(x, 0, 32, -1);
        d.due("33: below 0", x.walls(0), 0);
        int[] all = new int[24];
        java.util.Arrays.fill(all, 1);
        all[2] = 0;
        all[5] = 0;
        Due.sheet(x, 1, 8, all);
        d.due("33: all", x.walls(1), 24);
        d.due("33: count", x.count(3), 22);
        d.due("33: no number", x.walls(3), Due.NONE);
        x.sheet(3, 8, 0);
        d.due("33: no number", x.walls(3), 0);
        d.due("33: sheet 4", x.walls(4), Due.BEYOND);
        d.due("33: sheet -1", x.walls(-1), Due.BEYOND);
    }

    private static void judging() {
        DownByTheHour x = new DownByTheHour();
        Due.sheet(x, 0, 8, 0, 0, 0, 1, 1, 1, 2, 2, 2, 3, 3, 3, 0);
        d.due("34: all", x.judge(0), 13);
        x.clock(1);
        d.due("34: from now on", x.judge(0), 2);
        x.clock(3);
        d.due("34: none", x.judge(0), 0);
        x.clock(0);
        Due.sheet(x, 0, 16, 0, 1, 0, 1);
        d.due("34: up to the first that isn't", x.judge(0), 1);
        Due.sheet(x, 0, 32, 4);
        d.due("34: no rest by 4", x.judge(0), 0);
        Due.text(x, 0, "h/5000");
        x.clock(9999);
        Due.sheet(x, 0, 32, 1, 2, 2, 2);
        d.due("34: HOUR beyond 9999", x.judge(0), 4);
        d.due("34: missing", x.judge(1), Due.NONE);
        x.sheet(1, 16, 0);
        d.due("34: no number", x.judge(1), 0);
        d.due("34: sheet 4", x.judge(4), Due.BEYOND);
        d.due("34: sheet -1", x.judge(-1), Due.BEYOND);
    }
}
