import java.util.Arrays;

/** The edges of SHEETS: promises 30 to 34. */
public final class EdgesOfSheetsTest {
    private static final Due d = new Due("EdgesOfSheetsTest");
    private static final Edges e = new Edges(d);
    private static final int MIN = Integer.MIN_VALUE;
    private static final int MAX = Integer.MAX_VALUE;

    public static void main(String[] args) {
        sheetBounds();
        sheetBits();
        sheetOrder();
        sheetMissing();
        sheetAnew();
        sheetsBeside();
        putBounds();
        putLengths();
        putLowestBits();
        moveSheets();
        moveOrder();
        movePlaces();
        moveNone();
        moveWraps();
        moveAll();
        moveInItself();
        wallsBounds();
        wallsEmptyAndFull();
        wallsUpTo();
        wallsOfThings();
        judgeBounds();
        judgeEmptyAndFull();
        judgeUpTo();
        judgeBeyond();
        d.end();
    }

    /** SHEET 0 of 4 numbers and SHEET 1 of 6, of 8 bits; SHEET 2 of 4, of 16 bits; SHEET 3 missing. */
    private static DownByTheHour three() {
        DownByTheHour x = Houses.lived();
        Due.sheet(x, 0, 8, 1, 0, 1, 1);
        Due.sheet(x, 1, 8, 0, 1, 0, 0, 1, 1);
        Due.sheet(x, 2, 16, 1, 1, 0, 1);
        return x;
    }

    /** The numbers of a SHEET, of 0 and 1, as the WALLS that it tells. */
    private static void isSheet(String what, DownByTheHour x, int sheet, int... numbers) {
        d.due(what + ", how many", x.walls(sheet), numbers.length);
        for (int i = 0; i < numbers.length; i++) {
            d.due(what + ", number " + i, x.cellIs(i, 0), numbers[i]);
        }
    }

    private static int[] ofEach(int n, int v) {
        int[] numbers = new int[n];
        Arrays.fill(numbers, v);
        return numbers;
    }

    // ---- promise 30

    private static void sheetBounds() {
        e.bounds("30: sheet", Houses::lived, 0, 3, (x, v) -> x.sheet(v, 8, 1));
        e.bounds("30: sheet, to be missing", Houses::full, 0, 3, (x, v) -> x.sheet(v, 0, 1));
        int[] bits = {8, 16, 32};
        for (int ofBits : bits) {
            e.taken("30: n 0 of " + ofBits, Houses::lived, Due.BEYOND, x -> x.sheet(0, ofBits, 0));
            e.taken("30: n 24 of " + ofBits, Houses::lived, Due.BEYOND, x -> x.sheet(0, ofBits, 24));
            e.none("30: too many of " + ofBits, Houses::lived, Due.BEYOND, (x, v) -> x.sheet(0, ofBits, v),
                25, 26, 100, MAX);
            e.none("30: below 0 of " + ofBits, Houses::lived, Due.STATE, (x, v) -> x.sheet(0, ofBits, v),
                -1, -2, -24, MIN);
        }
    }

    private static void sheetBits() {
        for (int bits = -33; bits <= 66; bits++) {
            int ofBits = bits;
            if (bits == 0 || bits == 8 || bits == 16 || bits == 32) {
                e.taken("30: bits " + bits, Houses::lived, Due.BEYOND, x -> x.sheet(0, ofBits, 6));
                d.due("30: 1, of bits " + bits, Houses.lived().sheet(0, bits, 6), 1);
            } else {
                e.refused("30: bits " + bits, Houses::lived, Due.BEYOND, x -> x.sheet(0, ofBits, 6));
            }
        }
        e.none("30: bits", Houses::lived, Due.BEYOND, (x, v) -> x.sheet(0, v, 6), MIN, MAX, 256 + 8);
    }

    private static void sheetOrder() {
        e.refused("30: BEYOND of sheet ahead of STATE", Houses::lived, Due.BEYOND, x -> x.sheet(4, 8, -1));
        e.refused("30: BEYOND of sheet below 0 ahead of STATE", Houses::lived, Due.BEYOND, x -> x.sheet(-1, 8, -1));
        e.refused("30: BEYOND of bits ahead of STATE", Houses::lived, Due.BEYOND, x -> x.sheet(0, 7, -1));
        e.refused("30: BEYOND of sheet, to be missing", Houses::lived, Due.BEYOND, x -> x.sheet(4, 0, -1));
        e.refused("30: neither sheet nor bits nor n", Houses::lived, Due.BEYOND, x -> x.sheet(4, 7, 25));
        e.refused("30: STATE of n MIN ahead of BEYOND", Houses::lived, Due.STATE, x -> x.sheet(3, 16, MIN));
    }

    private static void sheetMissing() {
        int[] any = {MIN, -1, 0, 1, 24, 25, MAX};
        for (int n : any) {
            DownByTheHour x = three();
            d.due("30: missing, n doesn't matter, " + n, x.sheet(0, 0, n), 1);
            d.due("30: it is missing, " + n, x.judge(0), Due.NONE);
            isSheet("30: the next is not, " + n, x, 1, 0, 1, 0, 0, 1, 1);
        }
        e.changesNothing("30: it was missing", Houses::lived, 1, x -> x.sheet(3, 0, -1));
        DownByTheHour y = new DownByTheHour();
        for (int sheet = 0; sheet < 4; sheet++) {
            d.due("30: missing as at first", y.sheet(sheet, 0, 0), 1);
            d.due("30: it is", y.put(sheet, 0, 0), Due.NONE);
        }
    }

    private static void sheetAnew() {
        int[] bits = {8, 16, 32};
        for (int was : bits) {
            for (int is : bits) {
                DownByTheHour x = new DownByTheHour();
                Due.sheet(x, 0, was, ofEach(24, 1));
                x.sheet(0, is, 24);
                isSheet("30: all 0 anew, " + was + " to " + is, x, 0, new int[24]);
                Due.sheet(x, 0, was, ofEach(24, -1));
                x.sheet(0, is, 3);
                isSheet("30: fewer, " + was + " to " + is, x, 0, 0, 0, 0);
                Due.sheet(x, 0, was, ofEach(24, 1));
                x.sheet(0, 0, 0);
                x.sheet(0, is, 24);
                isSheet("30: all 0 behind missing, " + was + " to " + is, x, 0, new int[24]);
            }
        }
        e.changesNothing("30: as it was, all 0", Houses::lived, 1, x -> x.sheet(1, 16, 0));
    }

    /** The last number of a SHEET and the first of the next are not one. */
    private static void sheetsBeside() {
        DownByTheHour x = new DownByTheHour();
        for (int sheet = 0; sheet < 4; sheet++) {
            x.sheet(sheet, 8, 24);
        }
        int[] first = new int[24];
        first[0] = 1;
        int[] last = new int[24];
        last[23] = 1;
        x.put(0, 23, 1);
        x.put(2, 0, 1);
        x.put(3, 23, 1);
        isSheet("31: 0", x, 0, last);
        isSheet("31: 1", x, 1, new int[24]);
        isSheet("31: 2", x, 2, first);
        isSheet("31: 3", x, 3, last);
        x.sheet(1, 8, 24);
        isSheet("30: anew, the one ahead stays", x, 0, last);
        isSheet("30: anew, the next stays", x, 2, first);
    }

    // ---- promise 31

    private static void putBounds() {
        e.bounds("31: sheet", Houses::full, 0, 3, (x, v) -> x.put(v, 0, 0));
        e.bounds("31: i of 6", Houses::lived, 0, 5, (x, v) -> x.put(0, v, 0));
        e.bounds("31: i of 24", Houses::lived, 0, 23, (x, v) -> x.put(2, v, 0));
        e.none("31: i of no number", Houses::lived, Due.BEYOND, (x, v) -> x.put(1, v, 0), -1, 0, 1, 23, 24, MIN, MAX);
        e.none("31: missing, NONE ahead of BEYOND of i", Houses::lived, Due.NONE, (x, v) -> x.put(3, v, 0),
            -1, 0, 1, 24, MIN, MAX);
        e.refused("31: BEYOND of sheet ahead of NONE", Houses::bare, Due.BEYOND, x -> x.put(4, 0, 0));
        e.refused("31: neither sheet nor i", Houses::lived, Due.BEYOND, x -> x.put(-1, 24, 0));
        e.changesNothing("31: the number that it is", Houses::lived, 1, x -> x.put(0, 5, 1));
    }

    private static void putLengths() {
        for (int n = 0; n <= 24; n++) {
            DownByTheHour x = new DownByTheHour();
            x.sheet(2, 16, n);
            d.due("31: the last of " + n, x.put(2, n - 1, 1), n == 0 ? Due.BEYOND : 1);
            d.due("31: the one behind the last of " + n, x.put(2, n, 1), Due.BEYOND);
            int[] numbers = new int[n];
            if (n > 0) {
                numbers[n - 1] = 1;
            }
            isSheet("31: of " + n, x, 2, numbers);
        }
    }

    /** What a number becomes: told as a WALL, or as the first CELL of FITS. */
    private static void putLowestBits() {
        int[] v = {0, 1, 2, -1, 127, 128, 129, 255, 256, 257, -255, -256, 32767, 32768, 65535, 65536, 65537, -65535,
            -65536, 1 << 24, (1 << 24) + 1, 1 << 31, (1 << 31) + 1, MAX};
        for (int bits = 8; bits <= 32; bits *= 2) {
            for (int number : v) {
                long lowest = number & (1L << bits) - 1;
                DownByTheHour x = new DownByTheHour();
                x.sheet(0, bits, 1);
                d.due("31: any number, " + number, x.put(0, 0, number), 1);
                d.due("31: " + number + " by " + bits + " is 0 or 1", x.walls(0), lowest <= 1 ? 1 : 0);
                d.due("31: " + number + " by " + bits + " is 1", x.cellIs(0, 0), lowest == 1 ? 1 : 0);
                x.put(0, 0, number << 6 | 35);
                long cell = (number << 6 | 35) & (1L << bits) - 1;
                d.due("31: " + number + " by " + bits + " is a CELL", x.fits(0), cell < 36 ? 4095 : 0);
            }
        }
    }

    // ---- promise 32

    private static void moveSheets() {
        e.bounds("32: sheet", Houses::full, 0, 3, (x, v) -> x.move(v, 0, 0, 0, 0));
        e.bounds("32: other", Houses::full, 0, 3, (x, v) -> x.move(0, 0, v, 0, 0));
        e.refused("32: the first is missing", EdgesOfSheetsTest::three, Due.NONE, x -> x.move(3, 0, 0, 0, 1));
        e.refused("32: the other is missing", EdgesOfSheetsTest::three, Due.NONE, x -> x.move(0, 0, 3, 0, 1));
        e.refused("32: both are missing", Houses::bare, Due.NONE, x -> x.move(0, 0, 1, 0, 0));
        e.refused("32: itself, missing", EdgesOfSheetsTest::three, Due.NONE, x -> x.move(3, 0, 3, 0, 0));
        e.refused("32: 8 and 16 bits", EdgesOfSheetsTest::three, Due.KIND, x -> x.move(0, 0, 2, 0, 1));
        e.refused("32: 16 and 8 bits", EdgesOfSheetsTest::three, Due.KIND, x -> x.move(2, 0, 0, 0, 1));
        e.refused("32: 16 and 32 bits", Houses::full, Due.KIND, x -> x.move(1, 0, 2, 0, 1));
        e.refused("32: 32 and 8 bits", Houses::full, Due.KIND, x -> x.move(2, 0, 3, 0, 1));
        e.refused("32: none of unlike bits", Houses::full, Due.KIND, x -> x.move(2, 0, 3, 0, 0));
        e.taken("32: 8 and 8 bits", Houses::full, Due.KIND, x -> x.move(0, 0, 3, 0, 24));
    }

    private static void moveOrder() {
        e.refused("32: BEYOND of sheet ahead of NONE", Houses::bare, Due.BEYOND, x -> x.move(4, 0, 0, 0, 0));
        e.refused("32: BEYOND of other ahead of NONE", Houses::bare, Due.BEYOND, x -> x.move(0, 0, 4, 0, 0));
        e.refused("32: BEYOND of both", Houses::full, Due.BEYOND, x -> x.move(-1, 0, 4, 0, 0));
        e.refused("32: NONE ahead of BEYOND of i", EdgesOfSheetsTest::three, Due.NONE, x -> x.move(3, -1, 0, 0, 1));
        e.refused("32: NONE ahead of BEYOND of n", EdgesOfSheetsTest::three, Due.NONE, x -> x.move(0, 0, 3, 0, -1));
        e.refused("32: NONE ahead of KIND", EdgesOfSheetsTest::three, Due.NONE, x -> x.move(2, 0, 3, 0, 1));
        e.refused("32: KIND ahead of BEYOND of i", EdgesOfSheetsTest::three, Due.KIND, x -> x.move(0, -1, 2, 0, 1));
        e.refused("32: KIND ahead of BEYOND of j", EdgesOfSheetsTest::three, Due.KIND, x -> x.move(0, 0, 2, 5, 1));
        e.refused("32: KIND ahead of BEYOND of n", EdgesOfSheetsTest::three, Due.KIND, x -> x.move(0, 0, 2, 0, 25));
        e.refused("32: KIND ahead of n below 0", EdgesOfSheetsTest::three, Due.KIND, x -> x.move(0, 0, 2, 0, -1));
    }

    private static void movePlaces() {
        for (int of = 1; of <= 4; of++) {
            int n = of;
            e.bounds("32: i of four by " + n, EdgesOfSheetsTest::three, 0, 4 - n, (x, v) -> x.move(0, v, 1, 0, n));
            e.bounds("32: j of four by " + n, EdgesOfSheetsTest::three, 0, 4 - n, (x, v) -> x.move(1, 0, 0, v, n));
            e.bounds("32: j of six by " + n, EdgesOfSheetsTest::three, 0, 6 - n, (x, v) -> x.move(0, 0, 1, v, n));
            e.bounds("32: i of itself by " + n, EdgesOfSheetsTest::three, 0, 6 - n, (x, v) -> x.move(1, v, 1, 0, n));
        }
        for (int of = 0; of <= 4; of++) {
            int i = of;
            e.bounds("32: n from " + i, EdgesOfSheetsTest::three, 0, 4 - i, (x, v) -> x.move(0, i, 1, 0, v));
            e.bounds("32: n to " + i, EdgesOfSheetsTest::three, 0, 4 - i, (x, v) -> x.move(1, 0, 0, i, v));
        }
        e.bounds("32: n of all", Houses::full, 0, 24, (x, v) -> x.move(0, 0, 3, 0, v));
        e.bounds("32: i of the last", Houses::full, 0, 23, (x, v) -> x.move(0, v, 3, 23, 1));
    }

    private static void moveNone() {
        e.changesNothing("32: none", EdgesOfSheetsTest::three, 0, x -> x.move(0, 0, 1, 0, 0));
        e.changesNothing("32: none from behind the last", EdgesOfSheetsTest::three, 0, x -> x.move(0, 4, 1, 6, 0));
        e.changesNothing("32: none of no number", Houses::lived, 0, x -> x.move(1, 0, 1, 0, 0));
        e.changesNothing("32: none of a full one", Houses::full, 0, x -> x.move(0, 24, 3, 24, 0));
        e.refused("32: i behind that", EdgesOfSheetsTest::three, Due.BEYOND, x -> x.move(0, 5, 1, 0, 0));
        e.refused("32: j behind that", EdgesOfSheetsTest::three, Due.BEYOND, x -> x.move(0, 0, 1, 7, 0));
        e.refused("32: i below 0, none", EdgesOfSheetsTest::three, Due.BEYOND, x -> x.move(0, -1, 1, 0, 0));
        e.refused("32: j below 0, none", EdgesOfSheetsTest::three, Due.BEYOND, x -> x.move(0, 0, 1, -1, 0));
        e.refused("32: one of no number", Houses::lived, Due.BEYOND, x -> x.move(1, 0, 1, 0, 1));
    }

    /** Sums that would wrap are no way past the end. */
    private static void moveWraps() {
        e.refused("32: i and n wrap", EdgesOfSheetsTest::three, Due.BEYOND, x -> x.move(0, MAX, 1, 0, MAX));
        e.refused("32: j and n wrap", EdgesOfSheetsTest::three, Due.BEYOND, x -> x.move(0, 0, 1, MAX, MAX));
        e.refused("32: i and 1 wrap", EdgesOfSheetsTest::three, Due.BEYOND, x -> x.move(0, MAX, 1, 0, 1));
        e.refused("32: j and 1 wrap", EdgesOfSheetsTest::three, Due.BEYOND, x -> x.move(0, 0, 1, MAX, 1));
        e.refused("32: 1 and n wrap", EdgesOfSheetsTest::three, Due.BEYOND, x -> x.move(0, 1, 1, 1, MAX));
        e.refused("32: MIN and MIN are 0", EdgesOfSheetsTest::three, Due.BEYOND, x -> x.move(0, MIN, 1, MIN, MIN));
        e.refused("32: n below 0 from the end on", EdgesOfSheetsTest::three, Due.BEYOND, x -> x.move(0, 4, 1, 4, -1));
        e.refused("32: a number of the next SHEET", Houses::full, Due.BEYOND, x -> x.move(0, 24, 3, 0, 1));
        e.refused("32: a number of the SHEET ahead", Houses::full, Due.BEYOND, x -> x.move(3, -1, 0, 0, 1));
    }

    private static void moveAll() {
        int[] numbers = new int[24];
        for (int i = 0; i < 24; i++) {
            numbers[i] = i * i % 5 == 1 ? 1 : 0;
        }
        for (int bits = 8; bits <= 32; bits *= 2) {
            DownByTheHour x = new DownByTheHour();
            Due.sheet(x, 0, bits, numbers);
            x.sheet(3, bits, 24);
            d.due("32: all 24 of " + bits, x.move(0, 0, 3, 0, 24), 24);
            isSheet("32: where they come to, " + bits, x, 3, numbers);
            isSheet("32: where they stay, " + bits, x, 0, numbers);
            d.due("32: all 24 to themselves, " + bits, x.move(3, 0, 3, 0, 24), 24);
            isSheet("32: as they were, " + bits, x, 3, numbers);
        }
        DownByTheHour y = new DownByTheHour();
        Due.sheet(y, 0, 32, 1 << 31, MAX, 65536);
        y.sheet(1, 32, 3);
        y.move(0, 0, 1, 0, 3);
        for (int i = 0; i < 3; i++) {
            y.move(1, i, 1, 0, 1);
            d.due("32: whole, no lowest bits, " + i, y.walls(1), 0);
        }
    }

    /** As they all were, where one place is behind the other, or ahead of it. */
    private static void moveInItself() {
        int[] was = {1, 0, 0, 1, 1, 0, 1, 0};
        for (int i = 0; i <= 8; i++) {
            for (int j = 0; j <= 8; j++) {
                for (int n = 0; n <= 8 - Math.max(i, j); n++) {
                    DownByTheHour x = new DownByTheHour();
                    Due.sheet(x, 1, 16, was);
                    int[] want = was.clone();
                    for (int k = 0; k < n; k++) {
                        want[j + k] = was[i + k];
                    }
                    d.due("32: in itself", x.move(1, i, 1, j, n), n);
                    isSheet("32: " + n + " from " + i + " to " + j, x, 1, want);
                }
            }
        }
    }

    // ---- promise 33

    private static void wallsBounds() {
        e.bounds("33: sheet", Houses::full, 0, 3, (x, v) -> x.walls(v));
        e.none("33: sheet, of none", Houses::bare, Due.BEYOND, (x, v) -> x.walls(v), -1, 4, MIN, MAX);
        e.none("33: all are missing", Houses::bare, Due.NONE, (x, v) -> x.walls(v), 0, 1, 2, 3);
        e.refused("33: missing", Houses::lived, Due.NONE, x -> x.walls(3));
        e.changesNothing("33: no number", Houses::lived, 0, x -> x.walls(1));
    }

    private static void wallsEmptyAndFull() {
        DownByTheHour x = new DownByTheHour();
        Houses.walls(x, 24, 35);
        Due.sheet(x, 0, 8, ofEach(24, 1));
        d.due("33: all 24", x.walls(0), 24);
        d.due("33: 24 and those behind", x.count(3), 26);
        d.due("33: again", x.walls(0), 24);
        d.due("33: as many", x.count(3), 26);
        x.sheet(0, 8, 24);
        d.due("33: none of 24", x.walls(0), 24);
        d.due("33: those behind stay", x.count(3), 2);
        d.due("33: 24", x.cellIs(24, 0), 1);
        Due.sheet(x, 0, 8, 1);
        d.due("33: one alone", x.walls(0), 1);
        d.due("33: that one", x.cellIs(0, 0), 1);
        d.due("33: three", x.count(3), 3);
    }

    /** Up to the first that is neither: those ahead are told, it and those behind aren't. */
    private static void wallsUpTo() {
        int[] neither = {2, 3, -1, 127, MIN, MAX, 256, 65536};
        for (int v : neither) {
            for (int place = 0; place < 24; place += 23) {
                DownByTheHour x = new DownByTheHour();
                x.wall(place, 1);
                int[] numbers = ofEach(24, 1);
                numbers[place] = v;
                Due.sheet(x, 0, 32, numbers);
                d.due("33: up to " + v + " at " + place, x.walls(0), place);
                d.due("33: those ahead, and it as it was, " + v, x.count(3), place + 1);
            }
        }
        DownByTheHour y = new DownByTheHour();
        Houses.walls(y, 0, 2, 4);
        Due.sheet(y, 0, 8, 0, 1, 2, 1, 0);
        d.due("33: two", y.walls(0), 2);
        int[] want = {0, 1, 1, 0, 1};
        for (int i = 0; i < want.length; i++) {
            d.due("33: CELL " + i, y.cellIs(i, 0), want[i]);
        }
        d.due("33: no ERROR", y.told(1) + y.told(2) + y.told(3), 0);
    }

    /** 1 where a THING is ends it, 0 there doesn't. */
    private static void wallsOfThings() {
        for (int place = 0; place < 24; place++) {
            DownByTheHour x = new DownByTheHour();
            x.thing(0, place);
            Due.sheet(x, 0, 16, ofEach(24, 1));
            d.due("33: up to the THING", x.walls(0), place);
            d.due("33: those ahead", x.count(3), place);
            d.due("33: no ERROR of that", x.told(3), 0);
            x.put(0, place, 0);
            d.due("33: 0 where a THING is", x.walls(0), 24);
            d.due("33: all but it", x.count(3), 23);
        }
        DownByTheHour y = new DownByTheHour();
        y.thing(0, 24);
        Due.sheet(y, 0, 16, ofEach(24, 1));
        d.due("33: the THING is behind the last", y.walls(0), 24);
        DownByTheHour z = new DownByTheHour();
        z.thing(0, 5);
        Due.sheet(z, 0, 16, 1, 1);
        d.due("33: the numbers end ahead of the THING", z.walls(0), 2);
    }

    // ---- promise 34

    private static void judgeBounds() {
        e.bounds("34: sheet", Houses::full, 0, 3, (x, v) -> x.judge(v));
        e.none("34: sheet, of none", Houses::bare, Due.BEYOND, (x, v) -> x.judge(v), -1, 4, MIN, MAX);
        e.none("34: all are missing", Houses::bare, Due.NONE, (x, v) -> x.judge(v), 0, 1, 2, 3);
        e.refused("34: missing", Houses::lived, Due.NONE, x -> x.judge(3));
        e.changesNothing("34: no number", Houses::lived, 0, x -> x.judge(1));
        e.changesNothing("34: asked", Houses::full, 3, x -> x.judge(3));
    }

    private static void judgeEmptyAndFull() {
        DownByTheHour x = new DownByTheHour();
        int[] pulls = new int[24];
        for (int i = 0; i < 24; i++) {
            pulls[i] = i / 3 % 4;
        }
        Due.sheet(x, 0, 8, pulls);
        d.due("34: all 24", x.judge(0), 24);
        x.clock(12);
        d.due("34: all 24 a DAY later", x.judge(0), 24);
        x.clock(24);
        d.due("34: HOUR by 3 goes round by 12", x.judge(0), 24);
        x.clock(1);
        d.due("34: an HOUR later", x.judge(0), 2);
        x.sheet(0, 8, 0);
        d.due("34: no number", x.judge(0), 0);
        Due.sheet(x, 0, 8, 0);
        d.due("34: one", x.judge(0), 1);
        Due.sheet(x, 0, 8, 1);
        d.due("34: none", x.judge(0), 0);
    }

    /** From the first on: what is right behind one that isn't doesn't count. */
    private static void judgeUpTo() {
        for (int place = 0; place < 24; place++) {
            DownByTheHour x = new DownByTheHour();
            Houses.text(x, 0, "3");
            int[] pulls = ofEach(24, 3);
            pulls[place] = 2;
            Due.sheet(x, 0, 8, pulls);
            d.due("34: up to " + place, x.judge(0), place);
        }
        int[] none = {-1, 4, 7, 256 + 1, MIN, MAX};
        for (int v : none) {
            DownByTheHour x = new DownByTheHour();
            Houses.text(x, 0, "1+2*" + (v & 1));
            Due.sheet(x, 0, 32, v);
            d.due("34: no PULL, " + v, x.judge(0), 0);
        }
        DownByTheHour y = new DownByTheHour();
        Houses.text(y, 0, "3");
        Due.sheet(y, 0, 8, 256 + 3);
        d.due("34: the lowest bits", y.judge(0), 1);
        Due.sheet(y, 0, 8, -1);
        d.due("34: -1 isn't 3", y.judge(0), 0);
    }

    private static void judgeBeyond() {
        DownByTheHour x = new DownByTheHour();
        Houses.text(x, 0, "3*(h/100=100)");
        x.clock(9999);
        Due.sheet(x, 0, 8, 0, 3, 3, 3);
        d.due("34: HOUR 9999, and 10000 to 10002", x.judge(0), 4);
        x.clock(9998);
        d.due("34: HOUR 9998", x.judge(0), 1);
        Houses.text(x, 0, "3*(h=9999+23)");
        int[] pulls = new int[24];
        pulls[23] = 3;
        Due.sheet(x, 0, 8, pulls);
        x.clock(9999);
        d.due("34: HOUR 10022 is the last", x.judge(0), 24);
        x.clock(9998);
        d.due("34: not of 9998", x.judge(0), 23);
        Houses.text(x, 0, "d");
        Due.sheet(x, 0, 8, 833 % 4, 833 % 4, 833 % 4, 833 % 4, 833 % 4, 833 % 4, 833 % 4, 833 % 4, 833 % 4, 834 % 4);
        x.clock(9999);
        d.due("34: HOUR 10008 is of DAY 834", x.judge(0), 10);
    }
}
