/** The edges of THE HOUSE and of promises 1 to 9. */
public final class EdgesOfThingsTest {
    private static final Due d = new Due("EdgesOfThingsTest");
    private static final Edges e = new Edges(d);
    private static final int MIN = Integer.MIN_VALUE;

    public static void main(String[] args) {
        newObject();
        twoObjects();
        wallBounds();
        wallOfAThing();
        wallsEverywhere();
        cellIsBounds();
        thingBounds();
        thingOrder();
        sixThings();
        thingIsBounds();
        becomeBounds();
        becomeKeeps();
        asBounds();
        carryBounds();
        carryRefused();
        clockBounds();
        d.end();
    }

    // ---- promise 1

    private static void newObject() {
        DownByTheHour x = new DownByTheHour();
        for (int what = 0; what <= 7; what++) {
            d.due("1: count(" + what + ") at first", x.count(what), 0);
        }
        d.due("1: z is 1 at first", x.count(8), 1);
        d.due("1: no TRACE", x.body(0), Due.NONE);
        d.due("1: no THING 0", x.thingIs(0, 0), Due.BEYOND);
        d.due("1: nothing waits", x.check(), 0);
        d.due("1: the tape is empty", x.text(0), -10);
        d.due("1: no TEXT of PULL", x.law(0, 4, 0, 0), 1);
        d.due("1: no TEXT of BREAKS", x.law(1, 4, 0, 0), 1);
        for (int sheet = 0; sheet < 4; sheet++) {
            d.due("1: sheet " + sheet + " is missing", x.walls(sheet), Due.NONE);
        }
        d.due("1: no IMAGE", x.restore(), Due.NONE);
        d.due("1: none was made", x.image(), 1);
    }

    private static void twoObjects() {
        DownByTheHour x = Houses.full();
        DownByTheHour y = new DownByTheHour();
        d.due("1: another object has nothing of a full one", y.count(0) + y.count(3) + y.count(5) + y.count(6), 0);
        d.due("1: nor its TEXT", y.law(0, 3, 0, 0), 1);
        y.wall(0, 1);
        y.clock(7);
        d.due("1: nor the full one of it", x.cellIs(0, 0), 0);
        d.due("1: nor its HOUR", x.count(1), 9999);
    }

    // ---- promise 2

    private static void wallBounds() {
        e.bounds("2: wall, cell", Houses::lived, 0, 35, (x, v) -> x.wall(v, 1));
        e.bounds("2: no wall, cell", Houses::lived, 0, 35, (x, v) -> x.wall(v, 0));
        e.bounds("2: is", Houses::lived, 0, 1, (x, v) -> x.wall(0, v));
        e.refused("2: a cell by bits alike", Houses::lived, Due.BEYOND, x -> x.wall(64 + 7, 0));
        e.refused("2: neither cell nor is", Houses::lived, Due.BEYOND, x -> x.wall(36, 2));
        for (int cell = 0; cell < 36; cell++) {
            DownByTheHour x = new DownByTheHour();
            d.due("2: no wall at first in " + cell, x.wall(cell, 1), 0);
            d.due("2: it was one, " + cell, x.wall(cell, 1), 1);
            d.due("2: but one is, " + cell, x.count(3), 1);
            d.due("2: it was one till now, " + cell, x.wall(cell, 0), 1);
            d.due("2: it was none, " + cell, x.wall(cell, 0), 0);
            d.due("2: none is, " + cell, x.count(3), 0);
        }
    }

    private static void wallOfAThing() {
        e.refused("2: a THING is in it", Houses::lived, Due.STATE, x -> x.wall(33, 1));
        e.refused("2: the last THING is in it", Houses::full, Due.STATE, x -> x.wall(35, 1));
        e.refused("2: BEYOND ahead of STATE", Houses::lived, Due.BEYOND, x -> x.wall(33, 2));
        e.changesNothing("2: STATE for 1 alone", Houses::lived, 0, x -> x.wall(33, 0));
        DownByTheHour x = new DownByTheHour();
        x.thing(0, 0);
        x.carry(0, 35);
        d.due("2: no THING is in it any more", x.wall(0, 1), 0);
        d.due("2: it is there now", x.wall(35, 1), Due.STATE);
    }

    private static void wallsEverywhere() {
        DownByTheHour x = new DownByTheHour();
        for (int cell = 0; cell < 36; cell++) {
            x.wall(cell, 1);
        }
        d.due("2: 36 WALLS", x.count(3), 36);
        for (int cell = 0; cell < 36; cell++) {
            d.due("4: no room for a THING in " + cell, x.thing(0, cell), Due.STATE);
            d.due("22: nor to LAND from " + cell, x.lands(cell, cell % 4), Due.STATE);
        }
        d.due("4: none is there", x.count(0), 0);
        d.due("14: hours pass all the same", x.hours(100), 0);
        x.wall(14, 0);
        d.due("4: but one CELL is free", x.thing(48, 14), 0);
        d.due("14: it stays there", x.hours(100), 0);
        d.due("14: nor does it FALL", x.thingIs(0, 2), 14);
        d.due("24: no room but its own", x.rooms(14, 100), 1L << 14);
        d.due("26: none is shut but by walls", x.shut(14), 0);
        for (int way = 0; way < 4; way++) {
            d.due("22: one stays by " + way, x.lands(14, way), 14);
            d.due("23: from itself alone by " + way, x.sources(14, way), 1L << 14);
        }
    }

    // ---- promise 3

    private static void cellIsBounds() {
        e.bounds("3: cell", Houses::lived, 0, 35, (x, v) -> x.cellIs(v, 0));
        e.bounds("3: cell of a THING", Houses::lived, 0, 35, (x, v) -> x.cellIs(v, 1));
        e.bounds("3: what", Houses::lived, 0, 1, (x, v) -> x.cellIs(7, v));
        e.refused("3: neither cell nor what", Houses::full, Due.BEYOND, x -> x.cellIs(-1, 2));
        e.changesNothing("3: a WALL", Houses::lived, 1, x -> x.cellIs(7, 0));
        e.changesNothing("3: no THING", Houses::lived, -1, x -> x.cellIs(7, 1));
        e.changesNothing("3: the last THING", Houses::full, 5, x -> x.cellIs(35, 1));
        d.due("3: -1 is no ERROR", Houses.bare().cellIs(35, 1), -1);
    }

    // ---- promise 4

    private static void thingBounds() {
        e.bounds("4: km", Houses::lived, 0, 69, (x, v) -> x.thing(v, 0));
        e.bounds("4: cell", Houses::lived, 0, 35, (x, v) -> x.thing(0, v));
        e.refused("4: neither km nor cell", Houses::lived, Due.BEYOND, x -> x.thing(70, 36));
        for (int km = 0; km <= 69; km++) {
            DownByTheHour x = new DownByTheHour();
            d.due("4: the first is 0", x.thing(km, 35), 0);
            d.due("4: KIND of " + km, x.thingIs(0, 0), km / 10);
            d.due("4: m of " + km, x.thingIs(0, 1), km % 10);
            d.due("4: CELL of " + km, x.thingIs(0, 2), 35);
            d.due("4: not BROKEN at first, " + km, x.thingIs(0, 3), 0);
            d.due("4: FELL 0 at first, " + km, x.thingIs(0, 4), 0);
        }
    }

    private static void thingOrder() {
        e.refused("4: a WALL is there", Houses::lived, Due.STATE, x -> x.thing(0, 7));
        e.refused("4: a THING is there", Houses::lived, Due.STATE, x -> x.thing(0, 33));
        e.refused("4: a seventh", Houses::full, Due.FULL, x -> x.thing(0, 0));
        e.refused("4: FULL ahead of STATE of a WALL", Houses::full, Due.FULL, x -> x.thing(0, 1));
        e.refused("4: FULL ahead of STATE of a THING", Houses::full, Due.FULL, x -> x.thing(0, 30));
        e.refused("4: BEYOND of km ahead of FULL", Houses::full, Due.BEYOND, x -> x.thing(70, 0));
        e.refused("4: BEYOND of km below 0 ahead of FULL", Houses::full, Due.BEYOND, x -> x.thing(-1, 30));
        e.refused("4: BEYOND of cell ahead of FULL", Houses::full, Due.BEYOND, x -> x.thing(0, 36));
        e.refused("4: BEYOND of km ahead of STATE", Houses::lived, Due.BEYOND, x -> x.thing(70, 7));
    }

    private static void sixThings() {
        DownByTheHour x = new DownByTheHour();
        for (int i = 0; i < 6; i++) {
            d.due("4: how many ahead of the next", x.count(0), i);
            d.due("4: its number", x.thing(i, 35 - i), i);
        }
        d.due("4: six", x.count(0), 6);
        d.due("4: no seventh", x.thing(0, 0), Due.FULL);
        d.due("4: six still", x.count(0), 6);
        x.image();
        DownByTheHour y = new DownByTheHour();
        y.image();
        y.thing(0, 0);
        y.hours(1);
        y.restore();
        d.due("4: the first again", y.thing(12, 3), 0);
        d.due("4: not BROKEN by what was in its place", y.thingIs(0, 3), 0);
        d.due("4: nor did it FALL", y.thingIs(0, 4), 0);
        d.due("4: none is where that was", y.cellIs(30, 1), -1);
    }

    // ---- promise 5

    private static void thingIsBounds() {
        for (int of = 0; of <= 4; of++) {
            int what = of;
            e.bounds("5: of three, " + what + " of thing", Houses::lived, 0, 2, (x, v) -> x.thingIs(v, what));
            e.bounds("5: of six, " + what + " of thing", Houses::full, 0, 5, (x, v) -> x.thingIs(v, what));
            e.none("5: of none, " + what + " of thing", Houses::bare, Due.BEYOND, (x, v) -> x.thingIs(v, what),
                -1, 0, 1, 5, 6);
        }
        e.bounds("5: what", Houses::lived, 0, 4, (x, v) -> x.thingIs(0, v));
        e.refused("5: neither thing nor what", Houses::lived, Due.BEYOND, x -> x.thingIs(3, 5));
        e.changesNothing("5: asked", Houses::lived, 33, x -> x.thingIs(0, 2));
    }

    // ---- promise 6

    private static void becomeBounds() {
        e.bounds("6: km", Houses::lived, 0, 69, (x, v) -> x.become(0, v));
        e.bounds("6: of three, thing", Houses::lived, 0, 2, (x, v) -> x.become(v, 0));
        e.bounds("6: of six, thing", Houses::full, 0, 5, (x, v) -> x.become(v, 69));
        e.none("6: of none, thing", Houses::bare, Due.BEYOND, (x, v) -> x.become(v, 0), -1, 0, 1);
        e.refused("6: neither thing nor km", Houses::lived, Due.BEYOND, x -> x.become(3, 70));
        e.changesNothing("6: what it is", Houses::lived, 1, x -> x.become(1, 15));
        for (int km = 0; km <= 69; km++) {
            DownByTheHour x = new DownByTheHour();
            x.thing(km, 0);
            d.due("6: the KIND that it was, " + km, x.become(0, 69 - km), km / 10);
            d.due("6: the KIND that it is, " + km, x.thingIs(0, 0), (69 - km) / 10);
            d.due("6: its m, " + km, x.thingIs(0, 1), (69 - km) % 10);
        }
    }

    private static void becomeKeeps() {
        DownByTheHour x = new DownByTheHour();
        x.thing(0, 0);
        x.thing(9, 1);
        x.hours(1);
        x.become(0, 69);
        d.due("6: BROKEN as it was", x.thingIs(0, 3), 1);
        d.due("6: FELL as it was", x.thingIs(0, 4), 5);
        d.due("6: where it was", x.thingIs(0, 2), 30);
        d.due("6: the next is as it was", x.thingIs(1, 1), 9);
        d.due("6: as many THINGS", x.count(0), 2);
        x.hours(1);
        d.due("6: it FALLS as one of its KIND now", x.thingIs(0, 2), 0);
    }

    // ---- promise 7

    private static void asBounds() {
        e.none("7: kind", Houses::lived, Due.BEYOND, (x, v) -> x.as(0, v), -1, 7, MIN, Integer.MAX_VALUE);
        for (int is = 0; is <= 6; is++) {
            int kind = is;
            e.taken("7: kind " + kind, Houses::lived, Due.BEYOND, x -> x.as(0, kind));
        }
        e.bounds("7: of three, thing", Houses::lived, 0, 2, (x, v) -> x.as(v, 0));
        e.bounds("7: of six, thing", Houses::full, 0, 5, (x, v) -> x.as(v, 0));
        e.none("7: of none, thing", Houses::bare, Due.BEYOND, (x, v) -> x.as(v, 0), -1, 0, 1);
        e.refused("7: neither thing nor kind", Houses::lived, Due.BEYOND, x -> x.as(3, 7));
        e.refused("7: BEYOND of the thing ahead of KIND", Houses::lived, Due.BEYOND, x -> x.as(3, 6));
        e.refused("7: a KIND under its own", Houses::lived, Due.KIND, x -> x.as(1, 4));
        e.refused("7: a KIND beside its own", Houses::lived, Due.KIND, x -> x.as(1, 2));
        e.changesNothing("7: its own KIND", Houses::lived, 5, x -> x.as(1, 1));
        e.changesNothing("7: the KIND above", Houses::lived, 5, x -> x.as(1, 0));
        DownByTheHour x = new DownByTheHour();
        x.thing(40, 0);
        x.thing(59, 1);
        d.due("7: two KINDS above, m 0", x.as(0, 0), 0);
        d.due("7: two KINDS above, m 9", x.as(1, 0), 9);
        d.due("7: the KIND between, m 0", x.as(0, 1), 0);
        d.due("7: the KIND between, m 9", x.as(1, 2), 9);
        d.due("7: its own KIND, m 9", x.as(1, 5), 9);
        d.due("7: not that of the other", x.as(0, 2), Due.KIND);
    }

    // ---- promise 8

    private static void carryBounds() {
        e.bounds("8: cell", Houses::lived, 0, 35, (x, v) -> x.carry(0, v));
        e.bounds("8: of three, thing", Houses::lived, 0, 2, (x, v) -> x.carry(v, 0));
        e.bounds("8: of six, thing", Houses::full, 0, 5, (x, v) -> x.carry(v, 0));
        e.none("8: of none, thing", Houses::bare, Due.BEYOND, (x, v) -> x.carry(v, 0), -1, 0, 1);
        e.refused("8: neither thing nor cell", Houses::lived, Due.BEYOND, x -> x.carry(3, 36));
        e.refused("8: a cell by bits alike", Houses::lived, Due.BEYOND, x -> x.carry(0, 64));
        for (int cell = 0; cell < 36; cell++) {
            DownByTheHour x = new DownByTheHour();
            x.thing(0, 35 - cell);
            d.due("8: where it was, to " + cell, x.carry(0, cell), 35 - cell);
            d.due("8: where it is, " + cell, x.thingIs(0, 2), cell);
            d.due("8: it is in " + cell, x.cellIs(cell, 1), 0);
        }
    }

    private static void carryRefused() {
        e.refused("8: a WALL is there", Houses::lived, Due.STATE, x -> x.carry(0, 7));
        e.refused("8: another THING is there", Houses::full, Due.STATE, x -> x.carry(0, 35));
        e.refused("8: another THING is there, a later one", Houses::full, Due.STATE, x -> x.carry(5, 30));
        e.refused("8: BEYOND of the thing ahead of STATE", Houses::lived, Due.BEYOND, x -> x.carry(3, 7));
        e.changesNothing("8: its own CELL", Houses::lived, 33, x -> x.carry(0, 33));
        e.changesNothing("8: its own CELL, of six", Houses::full, 35, x -> x.carry(5, 35));
        DownByTheHour x = new DownByTheHour();
        x.thing(0, 0);
        x.hours(1);
        x.carry(0, 35);
        d.due("8: BROKEN as it was", x.thingIs(0, 3), 1);
        d.due("8: FELL as it was", x.thingIs(0, 4), 5);
    }

    // ---- promise 9

    private static void clockBounds() {
        e.bounds("9: hour", Houses::lived, 0, 9999, (x, v) -> x.clock(v));
        e.bounds("9: hour behind the last", Houses::full, 0, 9999, (x, v) -> x.clock(v));
        e.changesNothing("9: the HOUR that it is", Houses::lived, 29, x -> x.clock(29));
        e.changesNothing("9: the last HOUR that it is", Houses::full, 9999, x -> x.clock(9999));
        DownByTheHour x = new DownByTheHour();
        d.due("9: to the last", x.clock(9999), 0);
        d.due("9: beyond", x.clock(10000), Due.BEYOND);
        d.due("9: it was the last", x.clock(0), 9999);
        d.due("9: below", x.clock(-1), Due.BEYOND);
        d.due("9: it is 0", x.count(1), 0);
    }
}
