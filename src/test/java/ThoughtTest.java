/** Promises 18 to 21: what would be. */
public final class ThoughtTest {
    private static final Due d = new Due("ThoughtTest");
    private static final int MAX = Integer.MAX_VALUE;

    public static void main(String[] args) {
        then();
        when();
        farthest();
        screws();
        onlyThought();
        beyondTheLastHour();
        d.end();
    }

    private static DownByTheHour three() {
        DownByTheHour x = new DownByTheHour();
        x.wall(26, 1);
        x.thing(0, 2);
        x.thing(10, 8);
        x.thing(60, 33);
        return x;
    }

    private static void then() {
        DownByTheHour x = three();
        for (int n = 0; n <= 100; n++) {
            DownByTheHour y = three();
            if (n > 0) {
                y.hours(n);
            }
            for (int thing = 0; thing < 3; thing++) {
                d.due("18: then(" + thing + ", " + n + ")", x.then(thing, n), y.thingIs(thing, 2));
            }
        }
        d.due("18: at once", x.then(0, 0), 2);
        d.due("18: stopped by 1", x.then(0, 1), 2);
        d.due("18: by hand", x.then(1, 1), 19);
        d.due("18: n -1", x.then(0, -1), Due.BEYOND);
        d.due("18: n 101", x.then(0, 101), Due.BEYOND);
        d.due("18: thing 3", x.then(3, 1), Due.BEYOND);
        d.due("18: thing -1", x.then(-1, 1), Due.BEYOND);
        d.due("18: thing MAX", x.then(MAX, 1), Due.BEYOND);
    }

    private static void when() {
        DownByTheHour x = new DownByTheHour();
        x.thing(0, 14);
        x.wall(0, 1);
        d.due("19: now", x.when(0, 14), 0);
        d.due("19: by the first", x.when(0, 32), 1);
        d.due("19: left by the fourth", x.when(0, 30), 4);
        d.due("19: ahead by the seventh", x.when(0, 6), 7);
        d.due("19: right by the tenth", x.when(0, 11), 10);
        d.due("19: down again by the thirteenth", x.when(0, 35), 13);
        d.due("19: a wall", x.when(0, 0), Due.NONE);
        d.due("19: between", x.when(0, 20), Due.NONE);
        d.due("19: cell 36", x.when(0, 36), Due.BEYOND);
        d.due("19: cell -1", x.when(0, -1), Due.BEYOND);
        d.due("19: thing 1", x.when(1, 0), Due.BEYOND);
        d.due("19: thing -1", x.when(-1, 0), Due.BEYOND);
        d.due("19: told NONE", x.told(2), 2);
        DownByTheHour y = new DownByTheHour();
        y.thing(0, 0);
        y.thing(0, 1);
        Due.text(y, 0, "3*(h=99)");
        y.hours(1);
        d.due("19: only itself counts", y.when(0, 31), Due.NONE);
        y.clock(0);
        d.due("19: by 100", y.when(1, 35), 100);
        y.clock(1);
        d.due("19: by 99", y.when(1, 35), 99);
        Due.text(y, 0, "3*(h=100)");
        y.clock(0);
        d.due("19: not by 101", y.when(1, 35), Due.NONE);
    }

    private static void farthest() {
        DownByTheHour x = new DownByTheHour();
        for (int what = 0; what < 3; what++) {
            d.due("20: no things, " + what, x.farthest(60, what), what == 1 ? -1 : 0);
        }
        x.thing(0, 31);
        x.thing(0, 32);
        d.due("20: nothing falls", x.farthest(3, 0), 0);
        d.due("20: nothing falls", x.farthest(3, 1), -1);
        d.due("20: nothing falls", x.farthest(3, 2), 0);
        d.due("20: left by the fourth", x.farthest(4, 0), 1);
        d.due("20: the least thing", x.farthest(4, 1), 0);
        d.due("20: by which", x.farthest(4, 2), 4);
        d.due("20: ahead by the seventh", x.farthest(7, 0), 5);
        d.due("20: the first hour", x.farthest(60, 2), 7);
        d.due("20: the least thing", x.farthest(60, 1), 0);
        x.clock(5);
        d.due("20: hours from now on", x.farthest(60, 2), 2);
        x.clock(6);
        d.due("20: something falls", x.farthest(1, 0), 5);
        x.clock(0);
        for (int what = 0; what < 3; what++) {
            d.due("20: then nothing does, " + what, x.farthest(1, what), what == 1 ? -1 : 0);
        }
        x.carry(0, 10);
        x.clock(6);
        d.due("20: the greatest, not the first", x.farthest(1, 1), 1);
        d.due("20: n 0", x.farthest(0, 0), Due.BEYOND);
        d.due("20: n 61", x.farthest(61, 0), Due.BEYOND);
        d.due("20: what 3", x.farthest(1, 3), Due.BEYOND);
        d.due("20: what -1", x.farthest(1, -1), Due.BEYOND);
    }

    private static void screws() {
        DownByTheHour x = new DownByTheHour();
        d.due("21: no things", x.screws(60, 0, 0), 0);
        d.due("21: no things", x.screws(60, 0, 1), 0);
        x.thing(0, 2);
        x.thing(0, 33);
        x.thing(0, 16);
        d.due("21: within 5", x.screws(3, 5, 1), 0);
        d.due("21: within 4", x.screws(3, 4, 0), 1);
        d.due("21: within 4", x.screws(3, 4, 1), 1);
        d.due("21: within 3", x.screws(3, 3, 1), 1);
        d.due("21: within 2", x.screws(3, 2, 1), 5);
        d.due("21: within 2", x.screws(3, 2, 0), 2);
        d.due("21: within 0 none may move", x.screws(60, 0, 1), 7);
        stacked();
        d.due("21: n 1", x.screws(1, 4, 1), 1);
        d.due("21: n 0", x.screws(0, 0, 0), Due.BEYOND);
        d.due("21: n 61", x.screws(61, 0, 0), Due.BEYOND);
        d.due("21: most -1", x.screws(1, -1, 0), Due.BEYOND);
        d.due("21: most 6", x.screws(1, 6, 0), Due.BEYOND);
        d.due("21: what 2", x.screws(1, 0, 2), Due.BEYOND);
        d.due("21: what -1", x.screws(1, 0, -1), Due.BEYOND);
    }

    /** One THING that is HELD holds what lies upon it; of sets with as many the least is told. */
    private static void stacked() {
        DownByTheHour x = new DownByTheHour();
        x.thing(0, 3);
        x.thing(0, 9);
        x.thing(0, 15);
        d.due("21: the lowest holds all", x.screws(3, 0, 1), 4);
        d.due("21: one", x.screws(3, 0, 0), 1);
        least(14, 2);
        least(2, 14);
    }

    /** That one falls far needs both, so either may be HELD. */
    private static void least(int first, int second) {
        DownByTheHour x = new DownByTheHour();
        int[] walls = {1, 12, 19, 20};
        for (int i = 0; i < walls.length; i++) {
            x.wall(walls[i], 1);
        }
        x.thing(0, first);
        x.thing(0, second);
        Due.text(x, 0, "1-h");
        d.due("21: either would do, the least is told", x.screws(2, 1, 1), 1);
        d.due("21: how many", x.screws(2, 1, 0), 1);
        d.due("21: within 2", x.screws(2, 2, 1), 0);
        d.due("21: within 0", x.screws(2, 0, 1), 3);
    }

    private static void onlyThought() {
        DownByTheHour x = three();
        x.seed(99);
        x.then(0, 100);
        x.when(0, 21);
        x.farthest(60, 0);
        x.screws(60, 1, 1);
        d.due("18: HOUR as it was", x.count(1), 0);
        d.due("18: z as it was", x.count(8), 99);
        d.due("18: none broken", x.count(2), 0);
        int[] cells = {2, 8, 33};
        for (int thing = 0; thing < 3; thing++) {
            d.due("18: cell as it was", x.thingIs(thing, 2), cells[thing]);
            d.due("18: fell as it was", x.thingIs(thing, 4), 0);
            d.due("18: in its cell", x.cellIs(cells[thing], 1), thing);
        }
    }

    private static void beyondTheLastHour() {
        DownByTheHour x = new DownByTheHour();
        x.thing(0, 0);
        Due.text(x, 0, "3*(h>9999)");
        x.clock(9999);
        d.due("18: HOUR 10000 is thought", x.then(0, 2), 35);
        d.due("18: HOUR 9999", x.then(0, 1), 30);
        d.due("19: HOUR 10000 is thought", x.when(0, 35), 2);
        d.due("20: HOUR 10000 is thought", x.farthest(2, 2), 1);
        d.due("21: HOUR 10000 is thought", x.screws(2, 4, 1), 1);
        x.carry(0, 30);
        d.due("20: HOUR 10000 alone", x.farthest(2, 2), 2);
        Due.text(x, 0, "3*(h=9999+10000/100-1)");
        d.due("a number of five digits is none", x.pull(0), 0);
    }
}
