/** The edges of THEN, WHEN, FARTHEST and SCREWS: promises 18 to 21. */
public final class EdgesOfThoughtTest {
    private static final Due d = new Due("EdgesOfThoughtTest");
    private static final Edges e = new Edges(d);
    private static final int[] LEAST_OF_NONE = {0, -1, 0};

    public static void main(String[] args) {
        thenBounds();
        thenByHundred();
        whenBounds();
        whenByHundred();
        whenInItsWay();
        farthestBounds();
        farthestOfNothing();
        farthestFirst();
        farthestBySixty();
        screwsBounds();
        screwsOfNone();
        screwsOfAll();
        screwsByMost();
        screwsOfSeveralSets();
        screwsBySixty();
        heldFellNothing();
        beyondTheLastHour();
        theDayBeyond();
        onlyThought();
        d.end();
    }

    /** A THING in CELL 30, which PULL takes to 35 by one HOUR alone. */
    private static DownByTheHour pulledAt(int hour) {
        DownByTheHour x = new DownByTheHour();
        x.thing(0, 30);
        Houses.text(x, 0, "3*(h=" + hour + ")");
        return x;
    }

    // ---- promise 18

    private static void thenBounds() {
        e.bounds("18: n", Houses::lived, 0, 100, (x, v) -> x.then(0, v));
        e.bounds("18: n of six", Houses::full, 0, 100, (x, v) -> x.then(5, v));
        e.bounds("18: of three, thing", Houses::lived, 0, 2, (x, v) -> x.then(v, 1));
        e.bounds("18: of six, thing", Houses::full, 0, 5, (x, v) -> x.then(v, 0));
        e.none("18: of none, thing", Houses::bare, Due.BEYOND, (x, v) -> x.then(v, 0), -1, 0, 1);
        e.refused("18: neither thing nor n", Houses::lived, Due.BEYOND, x -> x.then(3, 101));
        e.changesNothing("18: behind no HOUR", Houses::lived, 33, x -> x.then(0, 0));
        e.changesNothing("18: behind a hundred", Houses::full, 30, x -> x.then(0, 100));
    }

    private static void thenByHundred() {
        d.due("18: by HOUR 0, none yet", pulledAt(0).then(0, 0), 30);
        d.due("18: by HOUR 0", pulledAt(0).then(0, 1), 35);
        d.due("18: by HOUR 98, not yet", pulledAt(98).then(0, 98), 30);
        d.due("18: by HOUR 99, not yet", pulledAt(99).then(0, 99), 30);
        d.due("18: by HOUR 99", pulledAt(99).then(0, 100), 35);
        d.due("18: not by HOUR 100", pulledAt(100).then(0, 100), 30);
    }

    // ---- promise 19

    private static void whenBounds() {
        e.bounds("19: cell", Houses::lived, 0, 35, (x, v) -> x.when(0, v));
        e.bounds("19: of three, thing", Houses::lived, 0, 2, (x, v) -> x.when(v, 33));
        e.bounds("19: of six, thing", Houses::full, 0, 5, (x, v) -> x.when(v, 33));
        e.none("19: of none, thing", Houses::bare, Due.BEYOND, (x, v) -> x.when(v, 0), -1, 0, 1);
        e.refused("19: neither thing nor cell", Houses::lived, Due.BEYOND, x -> x.when(3, 36));
        e.refused("19: never in a WALL", Houses::lived, Due.NONE, x -> x.when(0, 7));
        e.refused("19: never where another stays", Houses::full, Due.NONE, x -> x.when(0, 35));
        e.changesNothing("19: there it is", Houses::lived, 0, x -> x.when(0, 33));
    }

    private static void whenByHundred() {
        d.due("19: behind 0", pulledAt(0).when(0, 30), 0);
        d.due("19: behind 1", pulledAt(0).when(0, 35), 1);
        d.due("19: behind 99", pulledAt(98).when(0, 35), 99);
        d.due("19: behind 100", pulledAt(99).when(0, 35), 100);
        d.due("19: not by 100", pulledAt(100).when(0, 35), Due.NONE);
        e.refused("19: not by 100", () -> pulledAt(100), Due.NONE, x -> x.when(0, 35));
        DownByTheHour x = pulledAt(100);
        x.clock(1);
        d.due("19: by 100 from HOUR 1 on", x.when(0, 35), 100);
        x.clock(100);
        d.due("19: by 1 from HOUR 100 on", x.when(0, 35), 1);
        x.clock(101);
        d.due("19: HOUR 100 is over", x.when(0, 35), Due.NONE);
        DownByTheHour y = new DownByTheHour();
        y.thing(0, 5);
        Houses.text(y, 0, "1");
        d.due("19: a hundred HOURS to the left lead no way down", y.when(0, 30), Due.NONE);
        d.due("18: nor are there more", y.then(0, 100), 0);
    }

    /** It is in a CELL at the end of an HOUR, not in one that it SLIDES by; and first, where often. */
    private static void whenInItsWay() {
        DownByTheHour x = new DownByTheHour();
        x.thing(0, 14);
        d.due("19: it SLIDES by", x.when(0, 20), Due.NONE);
        d.due("19: it comes to rest", x.when(0, 32), 1);
        x.carry(0, 0);
        d.due("19: there it is first, not behind 9", x.when(0, 0), 0);
        d.due("19: then below", x.when(0, 30), 1);
        d.due("19: then to the right", x.when(0, 5), 10);
    }

    // ---- promise 20

    private static void farthestBounds() {
        for (int of = 0; of <= 2; of++) {
            int what = of;
            e.bounds("20: n, what " + what, Houses::lived, 1, 60, (x, v) -> x.farthest(v, what));
            e.bounds("20: n of six, what " + what, Houses::full, 1, 60, (x, v) -> x.farthest(v, what));
            e.bounds("20: n of none, what " + what, Houses::bare, 1, 60, (x, v) -> x.farthest(v, what));
        }
        e.bounds("20: what", Houses::lived, 0, 2, (x, v) -> x.farthest(1, v));
        e.refused("20: neither n nor what", Houses::lived, Due.BEYOND, x -> x.farthest(0, 3));
        e.changesNothing("20: asked", Houses::full, 0, x -> x.farthest(60, 0));
    }

    private static void farthestOfNothing() {
        for (int what = 0; what <= 2; what++) {
            DownByTheHour x = new DownByTheHour();
            d.due("20: without THINGS " + what, x.farthest(60, what), LEAST_OF_NONE[what]);
            d.due("20: of full, none of whom FALLS, " + what, Houses.full().farthest(60, what), LEAST_OF_NONE[what]);
            x.thing(51, 0);
            x.thing(53, 3);
            d.due("20: none FALLS " + what, x.farthest(60, what), LEAST_OF_NONE[what]);
            DownByTheHour y = new DownByTheHour();
            y.thing(14, 33);
            Houses.text(y, 0, "0");
            d.due("20: what rolls to the side alone " + what, y.farthest(60, what), LEAST_OF_NONE[what]);
            DownByTheHour z = new DownByTheHour();
            z.thing(0, 0);
            z.hours(1);
            d.due("20: what FELL ahead doesn't count " + what, z.farthest(1, what), LEAST_OF_NONE[what]);
        }
    }

    /** The first HOUR by which it FELL that far; of several THINGS then the least. */
    private static void farthestFirst() {
        DownByTheHour x = new DownByTheHour();
        x.thing(0, 14);
        x.thing(0, 15);
        d.due("20: both FALL as far", x.farthest(1, 0), 3);
        d.due("20: the least of them", x.farthest(1, 1), 0);
        d.due("20: HOURS are told from 1", x.farthest(1, 2), 1);
        x.carry(0, 20);
        d.due("20: the second FALLS farther", x.farthest(1, 0), 3);
        d.due("20: so it is told", x.farthest(1, 1), 1);
        x.carry(0, 12);
        x.carry(1, 11);
        d.due("20: farther at once than ever then, by the second", x.farthest(3, 1), 1);
        d.due("20: as far later by the least", x.farthest(60, 0), 5);
        x.carry(0, 30);
        x.carry(1, 17);
        Houses.text(x, 0, "1-h%2");
        d.due("20: the second by the first HOUR", x.farthest(1, 1), 1);
        d.due("20: how far", x.farthest(1, 0), 5);
        Houses.text(x, 0, "2+h%2*3");
        x.carry(1, 11);
        d.due("20: the first by the first HOUR", x.farthest(2, 1), 0);
        d.due("20: as far by the second HOUR is no more", x.farthest(2, 2), 1);
        x.carry(0, 24);
        x.carry(1, 11);
        x.wall(5, 1);
        Houses.text(x, 0, "2-h%2");
        d.due("20: 4 by the first", x.farthest(1, 0), 4);
        d.due("20: 5 by the second HOUR", x.farthest(2, 2), 2);
        d.due("20: of the second THING", x.farthest(2, 1), 1);
    }

    private static void farthestBySixty() {
        DownByTheHour x = pulledAt(59);
        d.due("20: not by 59", x.farthest(59, 0), 0);
        d.due("20: by 60", x.farthest(60, 0), 5);
        d.due("20: which", x.farthest(60, 1), 0);
        d.due("20: by the last HOUR", x.farthest(60, 2), 60);
        DownByTheHour y = pulledAt(60);
        for (int what = 0; what <= 2; what++) {
            d.due("20: not by HOUR 60, " + what, y.farthest(60, what), LEAST_OF_NONE[what]);
        }
        DownByTheHour z = pulledAt(0);
        d.due("20: by the first HOUR", z.farthest(1, 2), 1);
    }

    // ---- promise 21

    private static void screwsBounds() {
        for (int of = 0; of <= 1; of++) {
            int what = of;
            e.bounds("21: n, what " + what, Houses::lived, 1, 60, (x, v) -> x.screws(v, 0, what));
            e.bounds("21: most, what " + what, Houses::lived, 0, 5, (x, v) -> x.screws(1, v, what));
            e.bounds("21: n of none, what " + what, Houses::bare, 1, 60, (x, v) -> x.screws(v, 0, what));
            e.bounds("21: most of six, what " + what, Houses::full, 0, 5, (x, v) -> x.screws(60, v, what));
        }
        e.bounds("21: what", Houses::lived, 0, 1, (x, v) -> x.screws(1, 0, v));
        e.refused("21: neither n nor most nor what", Houses::lived, Due.BEYOND, x -> x.screws(0, 6, 2));
        e.changesNothing("21: asked", Houses::full, 0, x -> x.screws(60, 0, 1));
    }

    private static void screwsOfNone() {
        DownByTheHour x = new DownByTheHour();
        for (int most = 0; most <= 5; most++) {
            d.due("21: none of none", x.screws(60, most, 0), 0);
            d.due("21: the empty set of none", x.screws(60, most, 1), 0);
        }
        x.thing(51, 0);
        d.due("21: none of one that doesn't FALL", x.screws(60, 0, 0), 0);
        d.due("21: the empty set", x.screws(60, 0, 1), 0);
    }

    private static void screwsOfAll() {
        DownByTheHour x = new DownByTheHour();
        for (int i = 0; i < 6; i++) {
            x.thing(0, i);
            d.due("21: all must be HELD", x.screws(1, 0, 0), i + 1);
            d.due("21: the full set", x.screws(1, 0, 1), (1 << i + 1) - 1);
            d.due("21: all within 4", x.screws(1, 4, 0), i + 1);
            d.due("21: none within 5", x.screws(60, 5, 0), 0);
            d.due("21: the empty set within 5", x.screws(60, 5, 1), 0);
        }
    }

    /** What FALLS by as many is within, what FALLS by one more isn't. */
    private static void screwsByMost() {
        for (int far = 0; far <= 5; far++) {
            for (int most = 0; most <= 5; most++) {
                DownByTheHour x = new DownByTheHour();
                x.thing(51, 0);
                x.thing(0, 31 - 6 * far);
                d.due("21: FALLS by " + far + " within " + most, x.screws(1, most, 0), far > most ? 1 : 0);
                d.due("21: the set of it", x.screws(1, most, 1), far > most ? 2 : 0);
            }
        }
    }

    /** Of sets with as many the least, by bits: THINGS one upon the other, of which the lowest holds all. */
    private static void screwsOfSeveralSets() {
        DownByTheHour x = new DownByTheHour();
        for (int i = 0; i < 5; i++) {
            x.thing(0, i * 6);
        }
        x.thing(0, 35);
        Houses.text(x, 0, "0");
        d.due("21: the lowest holds all", x.screws(60, 0, 0), 1);
        d.due("21: which is bit 4", x.screws(60, 0, 1), 16);
        DownByTheHour y = new DownByTheHour();
        Houses.walls(y, 13, 14, 16, 17);
        y.thing(0, 3);
        y.thing(0, 9);
        y.thing(0, 15);
        y.thing(0, 21);
        Houses.text(y, 0, "0");
        d.due("21: none falls by more than 2", y.screws(60, 2, 0), 0);
        d.due("21: the last holds all within 0", y.screws(60, 0, 1), 8);
        y.carry(3, 35);
        d.due("21: three of four within 3", y.screws(60, 3, 0), 0);
        d.due("21: the third holds two within 0", y.screws(60, 0, 1), 4);
        eitherOfTwo();
        fewerThanLess();
    }

    /** Two that FALL far only if both are free: each alone would do, and the set of bit 0 is the least. */
    private static void eitherOfTwo() {
        DownByTheHour x = new DownByTheHour();
        int[] walls = {1, 12, 19, 20};
        Houses.walls(x, walls);
        x.thing(51, 35);
        x.thing(0, 14);
        x.thing(0, 2);
        Houses.text(x, 0, "1-h");
        d.due("21: one of two", x.screws(2, 1, 0), 1);
        d.due("21: the least set", x.screws(2, 1, 1), 2);
    }

    /** A set of one, though its bits tell more than those of a set of two. */
    private static void fewerThanLess() {
        DownByTheHour x = new DownByTheHour();
        x.thing(0, 9);
        x.thing(0, 15);
        x.thing(0, 21);
        d.due("21: fewer, not less", x.screws(1, 0, 1), 4);
        d.due("21: how many", x.screws(1, 0, 0), 1);
    }

    private static void screwsBySixty() {
        DownByTheHour x = pulledAt(59);
        d.due("21: not by 59", x.screws(59, 0, 0), 0);
        d.due("21: by 60", x.screws(60, 4, 0), 1);
        d.due("21: by 60, within 5", x.screws(60, 5, 0), 0);
        d.due("21: not by HOUR 60", pulledAt(60).screws(60, 0, 1), 0);
        d.due("21: by one HOUR", pulledAt(0).screws(1, 0, 1), 1);
        d.due("21: not by one HOUR", pulledAt(1).screws(1, 0, 1), 0);
    }

    /** What is HELD stays all the time, and what lies upon it, too. */
    private static void heldFellNothing() {
        DownByTheHour x = new DownByTheHour();
        x.thing(0, 12);
        x.thing(0, 18);
        x.thing(0, 24);
        x.thing(0, 3);
        d.due("21: two within 0", x.screws(3, 0, 0), 2);
        d.due("21: the lowest, and the one beside", x.screws(3, 0, 1), 12);
        d.due("21: within 4 the one beside alone", x.screws(3, 4, 1), 8);
        x.hours(1);
        d.due("21: what FELL ahead doesn't count", x.screws(1, 0, 1), 2);
    }

    // ---- HOURS that are only thought

    private static void beyondTheLastHour() {
        DownByTheHour x = pulledAt(9999);
        x.clock(9999);
        d.due("18: HOUR 9999 is thought", x.then(0, 1), 35);
        d.due("19: HOUR 9999 is thought", x.when(0, 35), 1);
        d.due("20: HOUR 9999 is thought", x.farthest(1, 0), 5);
        d.due("21: HOUR 9999 is thought", x.screws(1, 0, 0), 1);
        Houses.text(x, 0, "3*(h/100=100)");
        d.due("18: HOUR 10000 isn't the first", x.then(0, 1), 30);
        d.due("18: HOUR 10000 is the second", x.then(0, 2), 35);
        d.due("19: HOUR 10000 is the second", x.when(0, 35), 2);
        d.due("20: HOUR 10000 isn't the first", x.farthest(1, 0), 0);
        d.due("20: HOUR 10000 is the second", x.farthest(60, 2), 2);
        d.due("21: HOUR 10000 isn't the first", x.screws(1, 0, 0), 0);
        d.due("21: HOUR 10000 is the second", x.screws(2, 0, 0), 1);
        Houses.text(x, 0, "3*(h=9999+99)");
        d.due("18: HOUR 10098 is the hundredth", x.then(0, 100), 35);
        d.due("18: not the one ahead", x.then(0, 99), 30);
        d.due("19: HOUR 10098 is the hundredth", x.when(0, 35), 100);
        Houses.text(x, 0, "3*(h=9999+100)");
        d.due("19: HOUR 10099 is too late", x.when(0, 35), Due.NONE);
        Houses.text(x, 0, "3*(h=9999+59)");
        d.due("20: HOUR 10058 is the sixtieth", x.farthest(60, 2), 60);
        d.due("21: HOUR 10058 is the sixtieth", x.screws(60, 4, 1), 1);
        Houses.text(x, 0, "3*(h=9999+60)");
        d.due("20: HOUR 10059 is too late", x.farthest(60, 2), 0);
        d.due("21: HOUR 10059 is too late", x.screws(60, 0, 1), 0);
        d.due("14: HOUR is 9999 still", x.count(1), 9999);
    }

    private static void theDayBeyond() {
        DownByTheHour x = new DownByTheHour();
        x.thing(0, 30);
        Houses.text(x, 0, "3*(d=834)");
        x.clock(9999);
        d.due("19: HOUR 10008 is the first of DAY 834", x.when(0, 35), 10);
        Houses.text(x, 0, "3*(h>9999&d=833)");
        d.due("19: HOUR 10000 is of DAY 833", x.when(0, 35), 2);
        x.untell(0);
        x.carry(0, 35);
        d.due("19: without a TEXT 9999 by 3 is 3333", x.when(0, 30), 1);
        d.due("19: 10002 by 3 is 3334", x.when(0, 0), 4);
        d.due("19: 10005 by 3 is 3335", x.when(0, 5), 7);
    }

    private static void onlyThought() {
        long then = Houses.lived().then(2, 100);
        long farthest = Houses.lived().farthest(60, 0);
        long screws = Houses.lived().screws(60, 1, 1);
        e.changesNothing("18: thought", Houses::lived, then, x -> x.then(2, 100));
        e.changesNothing("19: thought", Houses::lived, 0, x -> x.when(2, 27));
        e.changesNothing("20: thought", Houses::lived, farthest, x -> x.farthest(60, 0));
        e.changesNothing("21: thought", Houses::lived, screws, x -> x.screws(60, 1, 1));
    }
}
