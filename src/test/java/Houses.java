/** Houses to begin with: one as at first, one with some of all, one with as much of all as it takes. */
final class Houses {
    /** Sixty bytes that are a TEXT; their sum is 40. */
    static final String SIXTY = "1+1+1+1+1+1+1+1+1+1+1+1+1+1+1+1+1+1+1+1+1+1+1+1+1+1+1+1+1+11";

    private Houses() {
    }

    static DownByTheHour bare() {
        return new DownByTheHour();
    }

    /** The bytes of a text come to THE TAPE, eight by a call. */
    static void feed(DownByTheHour x, String text) {
        for (int i = 0; i < text.length(); i += 8) {
            int n = Math.min(8, text.length() - i);
            long word = 0;
            for (int j = n - 1; j >= 0; j--) {
                word = word << 8 | text.charAt(i + j) & 255;
            }
            x.feed(word, n);
        }
    }

    /** A text becomes the TEXT of a USE, on a tape that is empty: what text() answers. */
    static int text(DownByTheHour x, int use, String text) {
        feed(x, text);
        return x.text(use);
    }

    static void walls(DownByTheHour x, int... cells) {
        for (int cell : cells) {
            x.wall(cell, 1);
        }
    }

    /**
     * Three THINGS (0 in CELL 33, BROKEN; 1 a ROLLER in 30; 2 a WALKER in 27), HOUR 29, WALLS in 7, 20, 28, both
     * TEXTS, four bytes, three numbers that wait, SHEETS of 6, 0 and 24 numbers and a missing one, an IMAGE of
     * something else, a TRACE of 5 BODIES, and each ERROR but FULL told.
     */
    static DownByTheHour lived() {
        DownByTheHour x = bare();
        walls(x, 7, 20);
        x.thing(0, 3);
        x.thing(15, 24);
        x.hours(1);
        text(x, 0, "h+1");
        feed(x, "1+h");
        x.tell(9);
        x.image();
        x.check();
        x.wall(28, 1);
        x.thing(32, 21);
        x.seed(77);
        x.text(1);
        text(x, 1, "f=4|m>6");
        text(x, 0, "h/2+d*n");
        x.clock(28);
        x.hours(1);
        feed(x, "d+2*");
        x.tell(x.thingIs(0, 2));
        x.tell(x.thingIs(1, 2));
        x.tell(99);
        Due.sheet(x, 0, 8, 1, 0, 1, 1, 0, 1);
        x.sheet(1, 16, 0);
        x.sheet(2, 32, 24);
        x.put(2, 3, 1);
        x.put(2, 23, 1);
        x.wall(36, 1);
        x.put(3, 0, 0);
        x.thing(0, 7);
        x.as(0, 1);
        x.voice(2, 3, 5);
        x.voice(1, 3, 7);
        return x;
    }

    /**
     * Six THINGS in CELLS 30 to 35, both TEXTS, sixty bytes, 24 numbers that wait, four SHEETS of 24 numbers, an IMAGE
     * of something else, HOUR 9999.
     */
    static DownByTheHour full() {
        DownByTheHour x = bare();
        walls(x, 1, 8, 15, 22, 19, 10);
        int[] kms = {3, 14, 20, 31, 42, 58};
        for (int i = 0; i < kms.length; i++) {
            x.thing(kms[i], 30 + i);
        }
        text(x, 1, "f=0&m=4|k=5");
        feed(x, SIXTY);
        x.image();
        x.text(0);
        text(x, 0, "h-h");
        x.hours(1);
        x.clock(9999);
        feed(x, SIXTY);
        for (int i = 0; i < 24; i++) {
            x.tell(30 + i);
        }
        int[] bits = {8, 16, 32, 8};
        for (int sheet = 0; sheet < bits.length; sheet++) {
            x.sheet(sheet, bits[sheet], 24);
            x.put(sheet, sheet, 1);
            x.put(sheet, 23, 1);
        }
        x.voice(4, 2, 7);
        return x;
    }
}
