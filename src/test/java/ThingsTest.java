/** Promises 1 to 9: a new object, walls and things. */
public final class ThingsTest {
    private static final Due d = new Due("ThingsTest");
    private static final int MIN = Integer.MIN_VALUE;
    private static final int MAX = Integer.MAX_VALUE;

    public static void main(String[] args) {
        newObject();
        walls();
        cells();
        things();
        ofThings();
        becoming();
        asKinds();
        carrying();
        clocks();
        d.end();
    }

    private static void newObject() {
        DownByTheHour x = new DownByTheHour();
        int[] counts = {0, 0, 0, 0, 0, 0, 0, 0, 1};
        for (int i = 0; i < counts.length; i++) {
            d.due("1: count(" + i + ")", x.count(i), counts[i]);
        }
        for (int cell = 0; cell < 36; cell++) {
            d.due("1: wall at " + cell, x.cellIs(cell, 0), 0);
            d.due("1: thing in " + cell, x.cellIs(cell, 1), -1);
        }
        for (int k = 1; k <= 6; k++) {
            d.due("1: told(" + k + ")", x.told(k), 0);
        }
        for (int sheet = 0; sheet < 4; sheet++) {
            d.due("1: judge(" + sheet + ")", x.judge(sheet), Due.NONE);
        }
        d.due("1: untell(0)", x.untell(0), 0);
        d.due("1: untell(1)", x.untell(1), 0);
        d.due("1: restore()", x.restore(), Due.NONE);
        d.due("1: image()", x.image(), 1);
    }

    private static void walls() {
        DownByTheHour x = new DownByTheHour();
        d.due("2: first", x.wall(0, 1), 0);
        d.due("2: again", x.wall(0, 1), 1);
        d.due("2: away", x.wall(0, 0), 1);
        d.due("2: away again", x.wall(0, 0), 0);
        d.due("2: last cell", x.wall(35, 1), 0);
        d.due("2: is", x.cellIs(35, 0), 1);
        d.due("2: cell -1", x.wall(-1, 1), Due.BEYOND);
        d.due("2: cell 36", x.wall(36, 1), Due.BEYOND);
        d.due("2: cell MIN", x.wall(MIN, 1), Due.BEYOND);
        d.due("2: is 2", x.wall(1, 2), Due.BEYOND);
        d.due("2: is -1", x.wall(1, -1), Due.BEYOND);
        x.thing(0, 7);
        d.due("2: where a thing is", x.wall(7, 1), Due.STATE);
        d.due("2: no wall where a thing is", x.wall(7, 0), 0);
        d.due("2: BEYOND ahead of STATE", x.wall(7, 2), Due.BEYOND);
        d.due("2: count", x.count(3), 1);
        d.due("2: told BEYOND", x.told(1), 6);
        d.due("2: told STATE", x.told(3), 1);
    }

    private static void cells() {
        DownByTheHour x = new DownByTheHour();
        x.wall(3, 1);
        x.thing(0, 5);
        x.thing(0, 6);
        d.due("3: wall", x.cellIs(3, 0), 1);
        d.due("3: no wall", x.cellIs(5, 0), 0);
        d.due("3: thing 0", x.cellIs(5, 1), 0);
        d.due("3: thing 1", x.cellIs(6, 1), 1);
        d.due("3: none", x.cellIs(3, 1), -1);
        d.due("3: what 2", x.cellIs(3, 2), Due.BEYOND);
        d.due("3: what -1", x.cellIs(3, -1), Due.BEYOND);
        d.due("3: cell 36", x.cellIs(36, 0), Due.BEYOND);
        d.due("3: cell -1", x.cellIs(-1, 0), Due.BEYOND);
        d.due("3: cell 67 (a long's bit 3)", x.cellIs(67, 0), Due.BEYOND);
    }

    private static void things() {
        DownByTheHour x = new DownByTheHour();
        x.wall(1, 1);
        d.due("4: km -1", x.thing(-1, 0), Due.BEYOND);
        d.due("4: km 70", x.thing(70, 0), Due.BEYOND);
        d.due("4: cell -1", x.thing(0, -1), Due.BEYOND);
        d.due("4: cell 36", x.thing(0, 36), Due.BEYOND);
        d.due("4: wall", x.thing(0, 1), Due.STATE);
        d.due("4: first", x.thing(69, 0), 0);
        d.due("4: there is one", x.thing(0, 0), Due.STATE);
        for (int i = 1; i < 6; i++) {
            d.due("4: number", x.thing(10 * i + i, 10 + i), i);
        }
        d.due("4: FULL ahead of STATE", x.thing(0, 1), Due.FULL);
        d.due("4: FULL", x.thing(0, 30), Due.FULL);
        d.due("4: BEYOND ahead of FULL", x.thing(MAX, 30), Due.BEYOND);
        d.due("4: count", x.count(0), 6);
        d.due("4: kind 6", x.thingIs(0, 0), 6);
        d.due("4: m 9", x.thingIs(0, 1), 9);
    }

    private static void ofThings() {
        DownByTheHour x = new DownByTheHour();
        d.due("5: no thing", x.thingIs(0, 0), Due.BEYOND);
        x.thing(47, 3);
        int[] at = {4, 7, 3, 0, 0};
        for (int what = 0; what < 5; what++) {
            d.due("5: what " + what, x.thingIs(0, what), at[what]);
        }
        x.hours(1);
        int[] then = {4, 7, 31, 1, 5};
        for (int what = 0; what < 5; what++) {
            d.due("5: fallen, what " + what, x.thingIs(0, what), then[what]);
        }
        d.due("5: what 5", x.thingIs(0, 5), Due.BEYOND);
        d.due("5: what -1", x.thingIs(0, -1), Due.BEYOND);
        d.due("5: thing 1", x.thingIs(1, 0), Due.BEYOND);
        d.due("5: thing -1", x.thingIs(-1, 0), Due.BEYOND);
        d.due("5: thing MAX", x.thingIs(MAX, 0), Due.BEYOND);
    }

    private static void becoming() {
        DownByTheHour x = new DownByTheHour();
        x.thing(12, 3);
        x.hours(1);
        d.due("6: was", x.become(0, 58), 1);
        d.due("6: kind", x.thingIs(0, 0), 5);
        d.due("6: m", x.thingIs(0, 1), 8);
        d.due("6: cell as it was", x.thingIs(0, 2), 32);
        d.due("6: broken as it was", x.thingIs(0, 3), 1);
        d.due("6: fell as it was", x.thingIs(0, 4), 5);
        d.due("6: was", x.become(0, 0), 5);
        d.due("6: km 69", x.become(0, 69), 0);
        d.due("6: km 70", x.become(0, 70), Due.BEYOND);
        d.due("6: km -1", x.become(0, -1), Due.BEYOND);
        d.due("6: thing 1", x.become(1, 0), Due.BEYOND);
        d.due("6: thing -1", x.become(-1, 0), Due.BEYOND);
        d.due("6: unchanged", x.thingIs(0, 1), 9);
    }

    private static void asKinds() {
        boolean[][] is = {
            {true, false, false, false, false, false, false},
            {true, true, false, false, false, false, false},
            {true, false, true, false, false, false, false},
            {true, false, false, true, false, false, false},
            {true, true, false, false, true, false, false},
            {true, false, true, false, false, true, false},
            {true, false, false, false, false, false, true},
        };
        DownByTheHour x = new DownByTheHour();
        x.thing(0, 0);
        int unlike = 0;
        for (int kind = 0; kind < 7; kind++) {
            x.become(0, 10 * kind + kind + 3);
            for (int other = 0; other < 7; other++) {
                d.due("7: " + kind + " as " + other, x.as(0, other), is[kind][other] ? kind + 3 : Due.KIND);
                unlike += is[kind][other] ? 0 : 1;
            }
        }
        d.due("7: told KIND", x.told(5), unlike);
        d.due("7: kind 7", x.as(0, 7), Due.BEYOND);
        d.due("7: kind -1", x.as(0, -1), Due.BEYOND);
        d.due("7: thing 1", x.as(1, 0), Due.BEYOND);
        d.due("7: thing -1", x.as(-1, 0), Due.BEYOND);
    }

    private static void carrying() {
        DownByTheHour x = new DownByTheHour();
        x.thing(0, 3);
        x.thing(0, 4);
        x.wall(8, 1);
        d.due("8: carried", x.carry(0, 20), 3);
        d.due("8: its own cell", x.carry(0, 20), 20);
        d.due("8: another thing", x.carry(0, 4), Due.STATE);
        d.due("8: thing 0 is there", x.carry(1, 20), Due.STATE);
        d.due("8: a wall", x.carry(0, 8), Due.STATE);
        d.due("8: the cell it left", x.carry(1, 3), 4);
        d.due("8: left", x.cellIs(4, 1), -1);
        d.due("8: where", x.cellIs(20, 1), 0);
        d.due("8: cell 36", x.carry(0, 36), Due.BEYOND);
        d.due("8: cell -1", x.carry(0, -1), Due.BEYOND);
        d.due("8: thing 2", x.carry(2, 0), Due.BEYOND);
        d.due("8: thing -1", x.carry(-1, 0), Due.BEYOND);
        d.due("8: a wall can be where it was", x.wall(4, 1), 0);
        x.hours(1);
        d.due("8: falls from there", x.thingIs(0, 2), 32);
        d.due("8: and 1", x.thingIs(1, 2), 33);
        x.carry(0, 0);
        x.carry(1, 24);
        x.hours(1);
        d.due("8: stopped where the other came to", x.thingIs(0, 2), 18);
        d.due("8: which falls", x.thingIs(1, 2), 30);
        x.carry(0, 0);
        x.carry(1, 35);
        x.hours(1);
        d.due("8: not stopped where they were", x.thingIs(0, 2), 30);
    }

    private static void clocks() {
        DownByTheHour x = new DownByTheHour();
        d.due("9: was", x.clock(9999), 0);
        d.due("9: was", x.clock(5), 9999);
        d.due("9: beyond", x.clock(10000), Due.BEYOND);
        d.due("9: below", x.clock(-1), Due.BEYOND);
        d.due("9: MIN", x.clock(MIN), Due.BEYOND);
        d.due("9: stays", x.count(1), 5);
        d.due("9: PULL of HOUR", x.count(4), 1);
        d.due("9: 0", x.clock(0), 5);
    }
}
