/** Promises 35 to 40: the image, numbers that wait, counts, what is told. */
public final class ImageTest {
    private static final Due d = new Due("ImageTest");
    private static final int MIN = Integer.MIN_VALUE;
    private static final int MAX = Integer.MAX_VALUE;

    public static void main(String[] args) {
        kept();
        notKept();
        again();
        waiting();
        counts();
        told();
        d.end();
    }

    private static void kept() {
        DownByTheHour x = new DownByTheHour();
        d.due("36: none", x.restore(), Due.NONE);
        x.thing(47, 3);
        x.wall(7, 1);
        x.hours(2);
        x.seed(77);
        Due.text(x, 0, "h+2");
        Due.text(x, 1, "f=1");
        Due.feed(x, "1+");
        x.tell(30);
        d.due("35: first", x.image(), 1);
        x.become(0, 12);
        x.thing(0, 0);
        x.hours(5);
        x.shakes(3);
        x.wall(7, 0);
        x.wall(8, 1);
        x.untell(0);
        Due.feed(x, "2222");
        x.text(1);
        Due.text(x, 1, "0");
        Due.feed(x, "2222");
        x.check();
        x.tell(9);
        x.tell(9);
        d.due("36: HOUR", x.restore(), 2);
        d.due("36: things", x.count(0), 1);
        int[] is = {4, 7, 30, 1, 0};
        for (int what = 0; what < 5; what++) {
            d.due("36: of the thing " + what, x.thingIs(0, what), is[what]);
        }
        d.due("36: in its cell", x.cellIs(30, 1), 0);
        d.due("36: none in 0", x.cellIs(0, 1), -1);
        d.due("36: wall", x.cellIs(7, 0), 1);
        d.due("36: no wall", x.cellIs(8, 0), 0);
        d.due("36: HOUR", x.count(1), 2);
        d.due("36: z", x.count(8), 77);
        d.due("36: PULL's text", x.law(0, 1, 0, 0), 3);
        d.due("36: BREAKS' text", x.law(1, 1, 0, 0), 1);
        d.due("36: the tape", x.count(5), 2);
        Due.feed(x, "1");
        d.due("36: its bytes", x.text(0), 1);
        d.due("36: its bytes", x.law(0, 0, 0, 0), 2);
        d.due("36: numbers wait", x.count(6), 1);
        d.due("36: which", x.check(), 0);
        d.due("36: the image stays", x.restore(), 2);
        d.due("36: the tape", x.count(5), 2);
        d.due("36: BROKEN", x.count(2), 1);
    }

    private static void notKept() {
        DownByTheHour x = new DownByTheHour();
        x.thing(5, 0);
        Due.sheet(x, 0, 8, 1);
        x.voice(0, 2, 1);
        x.wall(36, 1);
        x.image();
        x.put(0, 0, 0);
        x.sheet(1, 16, 1);
        x.voice(0, 0, 1);
        x.wall(36, 1);
        x.restore();
        d.due("35: sheets are not kept", x.judge(0), 1);
        d.due("35: sheets are not kept", x.judge(1), 1);
        d.due("35: the trace is not kept", x.count(7), 1);
        d.due("35: what is told is not kept", x.told(1), 2);
        d.due("35: how often", x.image(), 2);
        x.restore();
        d.due("35: how often", x.image(), 3);
    }

    private static void again() {
        DownByTheHour x = new DownByTheHour();
        x.image();
        x.clock(5);
        x.thing(0, 14);
        d.due("35: in place of the one ahead", x.image(), 2);
        x.clock(7);
        x.carry(0, 0);
        d.due("36: the latest", x.restore(), 5);
        d.due("36: the latest", x.thingIs(0, 2), 14);
        x.carry(0, 0);
        d.due("36: once more", x.restore(), 5);
        d.due("36: once more", x.thingIs(0, 2), 14);
        x.hours(1);
        d.due("36: goes on from there", x.thingIs(0, 2), 12);
        x.restore();
        x.carry(0, 0);
        x.clock(0);
        d.due("36: it breaks", x.hours(1), 1);
        x.restore();
        d.due("36: it isn't broken", x.count(2), 0);
    }

    private static void waiting() {
        DownByTheHour x = new DownByTheHour();
        d.due("38: none", x.check(), 0);
        x.thing(0, 3);
        x.thing(0, 9);
        for (int i = 1; i <= 24; i++) {
            d.due("37: how many", x.tell(i == 1 ? 3 : 9), i);
        }
        d.due("37: full", x.tell(9), Due.FULL);
        d.due("37: 24", x.count(6), 24);
        d.due("38: no third thing", x.check(), 3);
        d.due("38: none wait then", x.count(6), 0);
        x.tell(3);
        d.due("38: so it is", x.check(), 0);
        x.tell(3);
        x.tell(9);
        d.due("38: so they are", x.check(), 0);
        x.tell(9);
        x.tell(3);
        d.due("38: neither", x.check(), 1);
        x.tell(3);
        x.tell(MIN);
        d.due("38: the second", x.check(), 2);
        x.tell(MAX);
        d.due("37: any number", x.check(), 1);
        d.due("38: none wait", x.check(), 0);
        x.hours(1);
        x.tell(3);
        x.tell(9);
        d.due("38: where they are now", x.check(), 2);
        x.tell(3);
        x.tell(33);
        d.due("38: where they are now", x.check(), 0);
        d.due("38: no ERRORS but FULL", x.told(1) + x.told(2) + x.told(3), 0);
    }

    private static void counts() {
        DownByTheHour x = new DownByTheHour();
        x.thing(5, 0);
        x.thing(0, 1);
        x.wall(35, 1);
        x.wall(34, 1);
        x.wall(33, 1);
        x.hours(4);
        Due.feed(x, "12345");
        for (int i = 0; i < 6; i++) {
            x.tell(i);
        }
        x.voice(0, 1, 1);
        x.seed(-1000000002);
        int[] want = {2, 4, 2, 3, 1, 5, 6, 2, -1000000002};
        for (int what = 0; what < want.length; what++) {
            d.due("39: what " + what, x.count(what), want[what]);
        }
        d.due("39: z is any number", x.told(2), 0);
        d.due("39: what 9", x.count(9), Due.BEYOND);
        d.due("39: what -1", x.count(-1), Due.BEYOND);
        d.due("39: what MIN", x.count(MIN), Due.BEYOND);
        Due.text(x, 0, "f");
        d.due("39: empty tape", x.count(5), 0);
        Due.text(x, 0, "n");
        d.due("39: PULL of HOUR", x.count(4), 2);
    }

    private static void told() {
        DownByTheHour x = new DownByTheHour();
        x.thing(0, 0);
        x.wall(36, 1);
        x.restore();
        x.restore();
        x.wall(0, 1);
        x.wall(0, 1);
        x.wall(0, 1);
        for (int i = 0; i < 28; i++) {
            x.tell(i);
        }
        for (int i = 0; i < 5; i++) {
            x.as(0, 1);
        }
        for (int i = 0; i < 6; i++) {
            x.voice(0, 3, 1);
        }
        for (int k = 1; k <= 6; k++) {
            d.due("40: told(" + k + ")", x.told(k), k);
        }
        d.due("40: told(0)", x.told(0), Due.BEYOND);
        d.due("40: told(7)", x.told(7), Due.BEYOND);
        d.due("40: told(-1)", x.told(-1), Due.BEYOND);
        d.due("40: told(MIN)", x.told(MIN), Due.BEYOND);
        d.due("40: counted, too", x.told(1), 5);
        Due.text(x, 0, "x");
        d.due("40: a FAULT is no ERROR", x.told(1), 5);
        d.due("40: longs too", x.sources(36, 0), Due.BEYOND);
        d.due("40: longs too", x.rooms(36, 0), Due.BEYOND);
        d.due("40: longs too", x.shut(36), Due.BEYOND);
        d.due("40: longs too", x.told(1), 8);
        x.clock(3);
        x.image();
        x.told(9);
        x.restore();
        d.due("40: not by the image", x.told(1), 9);
    }
}
