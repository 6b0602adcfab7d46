/** The edges of the IMAGE, of what waits, of count() and told(): promises 35 to 40; and of an object's 512 calls. */
public final class EdgesOfImageTest {
    private static final Due d = new Due("EdgesOfImageTest");
    private static final Edges e = new Edges(d);
    private static final int MIN = Integer.MIN_VALUE;
    private static final int MAX = Integer.MAX_VALUE;

    public static void main(String[] args) {
        imageOfNothing();
        imageOften();
        imageOfFull();
        restoreWithoutImage();
        restoreAgain();
        imageIsACopy();
        notOfTheImage();
        tellFull();
        tellAnyNumber();
        checkOfNone();
        checkOfSix();
        checkPlaces();
        countBounds();
        countsFromEmptyToFull();
        toldBounds();
        toldOfEach();
        toldOfLongs();
        whatIsNoError();
        fiveHundredAndTwelve();
        d.end();
    }

    // ---- promises 35 and 36

    private static void imageOfNothing() {
        for (int part = 0; part < 2; part++) {
            DownByTheHour x = new DownByTheHour();
            d.due("35: the first", x.image(), 1);
            Houses.walls(x, 0, 14, 35);
            for (int i = 1; i <= 6; i++) {
                x.thing(10 * i, i);
            }
            x.clock(500);
            x.shakes(40);
            Houses.text(x, 0, "1");
            Houses.text(x, 1, "1");
            Houses.feed(x, Houses.SIXTY);
            for (int i = 0; i < 24; i++) {
                x.tell(i);
            }
            d.due("36: HOUR of a new house", x.restore(), 0);
            DownByTheHour y = new DownByTheHour();
            y.image();
            e.alike("36: as at first", new Probe(x, part, false), new Probe(y, part, false));
        }
    }

    private static void imageOften() {
        DownByTheHour x = new DownByTheHour();
        for (int i = 1; i <= 100; i++) {
            d.due("35: how often", x.image(), i);
            d.due("36: restored", x.restore(), 0);
        }
        d.due("35: it isn't kept itself", x.image(), 101);
    }

    /** A full house, kept, emptied as far as can be, and restored. */
    private static void imageOfFull() {
        for (int part = 0; part < 2; part++) {
            DownByTheHour x = Houses.full();
            d.due("35: in place of the one ahead", x.image(), 2);
            x.clock(0);
            x.untell(0);
            x.untell(1);
            x.text(0);
            x.check();
            x.seed(0);
            for (int i = 0; i < 6; i++) {
                x.become(i, 0);
                x.carry(i, 24 + i);
            }
            x.hours(1);
            for (int cell = 0; cell < 24; cell++) {
                x.wall(cell, 0);
            }
            d.due("36: HOUR is the last", x.restore(), 9999);
            DownByTheHour y = Houses.full();
            y.image();
            e.alike("36: full again", new Probe(x, part, false), new Probe(y, part, false));
        }
    }

    private static void restoreWithoutImage() {
        e.refused("36: there is none", Houses::bare, Due.NONE, x -> x.restore());
        e.refused("36: there is none of a house with some", () -> {
            DownByTheHour x = new DownByTheHour();
            x.thing(0, 3);
            x.wall(7, 1);
            x.hours(5);
            x.tell(3);
            return x;
        }, Due.NONE, x -> x.restore());
        DownByTheHour x = new DownByTheHour();
        d.due("36: none", x.restore(), Due.NONE);
        d.due("36: none still", x.restore(), Due.NONE);
        d.due("35: that was none", x.image(), 1);
        d.due("36: now there is", x.restore(), 0);
        d.due("40: told twice", x.told(2), 2);
    }

    private static void restoreAgain() {
        DownByTheHour x = new DownByTheHour();
        x.clock(9999);
        x.image();
        for (int i = 0; i < 20; i++) {
            x.clock(i);
            x.wall(i, 1);
            d.due("36: the IMAGE stays", x.restore(), 9999);
            d.due("36: no WALLS in it", x.count(3), 0);
        }
        x.clock(3);
        x.image();
        d.due("36: the one in its place", x.restore(), 3);
        x.clock(4);
        d.due("36: the first is gone", x.restore(), 3);
    }

    /** Neither does what is done then change the IMAGE, nor what was done ahead of it. */
    private static void imageIsACopy() {
        DownByTheHour x = Houses.lived();
        x.image();
        x.restore();
        x.become(0, 69);
        x.carry(0, 14);
        x.wall(0, 1);
        Houses.text(x, 0, "1");
        x.tell(5);
        x.hours(20);
        x.restore();
        d.due("36: KIND", x.thingIs(0, 0), 0);
        d.due("36: CELL", x.thingIs(0, 2), 33);
        d.due("36: WALL", x.cellIs(0, 0), 0);
        d.due("36: TEXT", x.law(0, 40, 0, 0), 0);
        d.due("36: bytes", x.count(5), 4);
        d.due("36: what waits", x.count(6), 3);
        d.due("36: HOUR", x.count(1), 29);
    }

    private static void notOfTheImage() {
        DownByTheHour x = Houses.full();
        x.sheet(0, 0, 0);
        x.put(1, 1, 0);
        x.put(1, 0, 1);
        x.voice(2, 0, 5);
        x.wall(36, 1);
        x.restore();
        d.due("35: a missing SHEET stays so", x.judge(0), Due.NONE);
        d.due("35: one with numbers has them", x.walls(3), 24);
        x.clock(0);
        Houses.text(x, 0, "1");
        x.text(0);
        Houses.text(x, 0, "1");
        d.due("35: a SHEET's number stays", x.judge(1), 1);
        d.due("35: THE TRACE stays", x.body(0), 10);
        d.due("35: so many BODIES", x.count(7), 1);
        d.due("35: what told() tells stays", x.told(1), 1);
        d.due("35: how often stays", x.image(), 2);
    }

    // ---- promises 37 and 38

    private static void tellFull() {
        DownByTheHour x = new DownByTheHour();
        for (int i = 1; i <= 24; i++) {
            d.due("37: how many wait", x.tell(i), i);
        }
        d.due("37: a twenty-fifth", x.tell(0), Due.FULL);
        d.due("37: 24 wait", x.count(6), 24);
        e.refused("37: 24 wait", Houses::full, Due.FULL, y -> y.tell(30));
        e.refused("37: 24 wait, any number", Houses::full, Due.FULL, y -> y.tell(MIN));
        e.taken("37: 23 wait", () -> {
            DownByTheHour y = Houses.bare();
            for (int i = 0; i < 23; i++) {
                y.tell(0);
            }
            return y;
        }, Due.FULL, y -> y.tell(0));
        x.check();
        d.due("37: the first again", x.tell(0), 1);
    }

    private static void tellAnyNumber() {
        int[] any = {MIN, -1000000001, -1, 36, 64 + 3, 256 + 3, 65536 + 3, MAX};
        for (int v : any) {
            DownByTheHour x = new DownByTheHour();
            x.thing(0, 3);
            d.due("37: any number, " + v, x.tell(v), 1);
            d.due("38: which is no CELL of it, " + v, x.check(), 1);
            x.tell(3);
            d.due("38: as this is, " + v, x.check(), 0);
        }
    }

    private static void checkOfNone() {
        e.changesNothing("38: none wait, no THINGS", Houses::bare, 0, x -> x.check());
        DownByTheHour x = new DownByTheHour();
        x.tell(0);
        d.due("38: there is no THING 0", x.check(), 1);
        d.due("38: none waits then", x.count(6), 0);
        d.due("38: none waits", x.check(), 0);
        x.thing(0, 0);
        x.thing(0, 1);
        d.due("38: none waits, though there are THINGS", x.check(), 0);
        x.tell(0);
        d.due("38: fewer numbers than THINGS", x.check(), 0);
        d.due("38: no ERROR", x.told(1) + x.told(2) + x.told(3) + x.told(4), 0);
    }

    private static void checkOfSix() {
        DownByTheHour x = Houses.full();
        d.due("38: a seventh of 24", x.check(), 7);
        d.due("38: none waits then", x.count(6), 0);
        for (int i = 0; i < 6; i++) {
            x.tell(30 + i);
        }
        d.due("38: all six", x.check(), 0);
        for (int i = 0; i < 7; i++) {
            x.tell(30 + i);
        }
        d.due("38: and a seventh", x.check(), 7);
        for (int i = 0; i < 24; i++) {
            x.tell(30);
        }
        d.due("38: all of the first", x.check(), 2);
    }

    private static void checkPlaces() {
        for (int wrong = 0; wrong < 6; wrong++) {
            DownByTheHour x = Houses.full();
            x.check();
            for (int i = 0; i < 6; i++) {
                x.tell(i < wrong ? 30 + i : 29);
            }
            d.due("38: 1 and the place " + wrong, x.check(), 1 + wrong);
            d.due("38: all are gone, not those ahead alone", x.count(6), 0);
            d.due("38: nothing waits, " + wrong, x.check(), 0);
        }
    }

    // ---- promise 39

    private static void countBounds() {
        e.bounds("39: what", Houses::bare, 0, 8, (x, v) -> x.count(v));
        e.bounds("39: what of a full house", Houses::full, 0, 8, (x, v) -> x.count(v));
        e.changesNothing("39: asked", Houses::lived, 77, x -> x.count(8));
    }

    private static void countsFromEmptyToFull() {
        DownByTheHour x = new DownByTheHour();
        for (int n = 0; n < 6; n++) {
            d.due("39: THINGS", x.count(0), n);
            x.thing(9, n);
        }
        d.due("39: six THINGS", x.count(0), 6);
        d.due("39: none is BROKEN", x.count(2), 0);
        x.hours(1);
        d.due("39: six are BROKEN", x.count(2), 6);
        x.clock(9999);
        d.due("39: HOUR", x.count(1), 9999);
        d.due("39: PULL of the last HOUR", x.count(4), 9999 / 3 % 4);
        int walls = 0;
        for (int cell = 0; cell < 30; cell++) {
            d.due("39: WALLS", x.count(3), walls);
            walls += x.wall(cell, 1) == 0 ? 1 : 0;
        }
        d.due("39: thirty WALLS", x.count(3), 30);
        for (int n = 0; n < 60; n++) {
            d.due("39: bytes", x.count(5), n);
            x.feed('1', 1);
        }
        d.due("39: sixty bytes", x.count(5), 60);
        for (int n = 0; n < 24; n++) {
            d.due("39: numbers that wait", x.count(6), n);
            x.tell(n);
        }
        d.due("39: 24 wait", x.count(6), 24);
        d.due("39: full houses all", Houses.full().count(0) + Houses.full().count(5) + Houses.full().count(6), 90);
    }

    // ---- promise 40

    private static void toldBounds() {
        e.bounds("40: k", Houses::bare, 1, 6, (x, v) -> x.told(v));
        e.bounds("40: k of a house with ERRORS", Houses::lived, 1, 6, (x, v) -> x.told(v));
        DownByTheHour x = new DownByTheHour();
        d.due("40: another k", x.told(0), Due.BEYOND);
        d.due("40: is counted, too", x.told(1), 1);
        d.due("40: asking isn't", x.told(1), 1);
        d.due("40: another k", x.told(7), Due.BEYOND);
        d.due("40: is counted, too", x.told(1), 2);
        d.due("40: k isn't below 0", x.told(-1), Due.BEYOND);
        d.due("40: nor an ERROR", x.told(Due.BEYOND), Due.BEYOND);
        d.due("40: counted, all four", x.told(1), 4);
    }

    /** Each ERROR once, by an act that can answer it; none of the others is counted by it. */
    private static void toldOfEach() {
        DownByTheHour x = Houses.full();
        x.become(0, 0);
        Edges.Call[] calls = {
            y -> y.pull(10000), y -> y.body(6), y -> y.hours(1), y -> y.tell(0), y -> y.as(1, 2), y -> y.voice(0, 3, 1),
        };
        int[] errors = {Due.BEYOND, Due.NONE, Due.STATE, Due.FULL, Due.KIND, Due.PARTED};
        for (int i = 0; i < calls.length; i++) {
            for (int k = 1; k <= 6; k++) {
                d.due("40: ahead of " + (i + 1) + ", told(" + k + ")", x.told(k), k <= i ? 1 : 0);
            }
            d.due("40: ERROR " + (i + 1), calls[i].on(x), errors[i]);
        }
        for (int i = 0; i < 60; i++) {
            d.due("40: PARTED again", x.voice(0, 3, i), Due.PARTED);
        }
        d.due("40: sixty-one", x.told(6), 61);
        d.due("40: the others stay", x.told(1) + x.told(2) + x.told(3) + x.told(4) + x.told(5), 5);
    }

    private static void toldOfLongs() {
        DownByTheHour x = new DownByTheHour();
        x.wall(0, 1);
        x.sources(36, 0);
        x.rooms(0, 101);
        x.shut(-1);
        d.due("40: BEYOND of longs", x.told(1), 3);
        x.sources(0, 0);
        x.rooms(0, 0);
        x.shut(0);
        d.due("40: STATE of longs", x.told(3), 3);
    }

    private static void whatIsNoError() {
        DownByTheHour x = new DownByTheHour();
        x.thing(51, 0);
        d.due("40: no THING there", x.cellIs(1, 1), -1);
        d.due("40: nothing FELL", x.farthest(1, 1), -1);
        d.due("40: a FAULT", x.text(0), -10);
        d.due("40: a number that isn't so", x.tell(9) + x.check(), 2);
        Due.sheet(x, 0, 8, 1);
        d.due("40: 1 where a THING is", x.walls(0), 0);
        d.due("40: z like an ERROR", x.seed(Due.NONE) + x.seed(Due.STATE), 1 + Due.NONE);
        d.due("40: told of z", x.count(8), Due.STATE);
        for (int k = 1; k <= 6; k++) {
            d.due("40: none is told, " + k, x.told(k), 0);
        }
    }

    /** An object is used for 512 calls: the last ones are answered as the first. */
    private static void fiveHundredAndTwelve() {
        DownByTheHour x = new DownByTheHour();
        for (int i = 1; i <= 511; i++) {
            d.due("35: call " + i, x.image(), i);
        }
        d.due("36: the 512th call", x.restore(), 0);
        DownByTheHour y = new DownByTheHour();
        for (int i = 1; i <= 511; i++) {
            d.due("40: call " + i, y.told(7), Due.BEYOND);
        }
        d.due("40: the 512th call", y.told(1), 511);
        DownByTheHour z = Houses.full();
        z.clock(0);
        for (int i = 0; i < 400; i++) {
            z.screws(60, 0, 1);
        }
        d.due("21: the dearest call, often", z.screws(60, 0, 1), 0);
    }
}
