/** Promises 10 to 13: the tape, texts and laws. */
public final class TextsTest {
    private static final Due d = new Due("TextsTest");
    private static final int MIN = Integer.MIN_VALUE;
    private static final int MAX = Integer.MAX_VALUE;

    public static void main(String[] args) {
        feeding();
        reading();
        faults();
        openAtOnce();
        values();
        defaults();
        untelling();
        d.end();
    }

    private static void feeding() {
        DownByTheHour x = new DownByTheHour();
        d.due("10: n 0", x.feed(104, 0), Due.BEYOND);
        d.due("10: n 9", x.feed(104, 9), Due.BEYOND);
        d.due("10: n -1", x.feed(104, -1), Due.BEYOND);
        d.due("10: one", x.feed(104, 1), 1);
        d.due("10: lowest first, the others not", x.feed(0x787878787878312BL, 2), 3);
        d.due("10: h+1", x.text(0), 1);
        d.due("10: value", x.law(0, 1, 0, 0), 2);
        d.due("10: empty then", x.count(5), 0);
        for (int i = 1; i <= 7; i++) {
            d.due("10: eight", x.feed(-1L, 8), 8 * i);
        }
        d.due("10: five are too many", x.feed(-1L, 5), Due.FULL);
        d.due("10: stays", x.count(5), 56);
        d.due("10: sixty", x.feed(-1L, 4), 60);
        d.due("10: no more", x.feed(0, 1), Due.FULL);
        d.due("10: BEYOND ahead of FULL", x.feed(0, 9), Due.BEYOND);
        d.due("10: told", x.told(4), 2);
        d.due("10: eight bytes", eight(), 1);
    }

    private static int eight() {
        DownByTheHour x = new DownByTheHour();
        String text = "12*h-d%7";
        long word = 0;
        for (int i = 7; i >= 0; i--) {
            word = word << 8 | text.charAt(i);
        }
        x.feed(word, 8);
        x.text(0);
        return x.law(0, 1, 24, 0) == ((12 - 24 % 7) & 3) ? 1 : 0;
    }

    private static void reading() {
        DownByTheHour x = new DownByTheHour();
        Due.text(x, 0, "!h|d*n+1");
        Due.text(x, 0, "!h");
        Due.text(x, 0, "2");
        d.due("11: nothing of a longer one stays", x.law(0, 1, 1, 1), 2);
        Due.feed(x, "h");
        d.due("11: use 2", x.text(2), Due.BEYOND);
        d.due("11: use -1", x.text(-1), Due.BEYOND);
        d.due("11: the tape stays", x.count(5), 1);
        d.due("11: read", x.text(0), 1);
        d.due("11: empty", x.count(5), 0);
        d.due("11: nothing to read", x.text(0), -10);
        d.due("11: the one ahead stays", x.law(0, 2, 9, 9), 2);
        d.due("11: in place of one ahead", Due.text(x, 0, "d"), 1);
        d.due("11: the new one", x.law(0, 2, 3, 9), 3);
        d.due("11: a fault", Due.text(x, 0, "d+"), -12);
        d.due("11: empty too", x.count(5), 0);
        d.due("11: stays", x.law(0, 2, 3, 9), 3);
        d.due("11: no ERRORS but two", x.told(1) + x.told(2) + x.told(3) + x.told(4), 2);
        String sixty = "1+1+1+1+1+1+1+1+1+1+1+1+1+1+1+1+1+1+1+1+1+1+1+1+1+1+1+1+1+11";
        d.due("11: sixty bytes", Due.text(x, 0, sixty), 1);
        d.due("11: their sum", x.law(0, 0, 0, 0), (29 + 11) & 3);
        String cut = sixty.substring(0, 59) + "+";
        d.due("11: ends too early at sixty", Due.text(x, 0, cut), -70);
    }

    private static void fault(int use, String text, int place) {
        DownByTheHour x = new DownByTheHour();
        d.due("11: fault of " + text, Due.text(x, use, text), place < 0 ? 1 : -10 - place);
    }

    private static void faults() {
        fault(0, "h", -1);
        fault(0, "1234", -1);
        fault(0, "0000", -1);
        fault(0, "12345", 4);
        fault(0, "(12345)", 5);
        fault(0, "hd", 1);
        fault(0, "1h", 1);
        fault(0, "h1", 1);
        fault(0, "x", 0);
        fault(0, "f", 0);
        fault(0, "m", 0);
        fault(0, "k", 0);
        fault(1, "h", 0);
        fault(1, "d", 0);
        fault(1, "n", 0);
        fault(1, "f+m*k", -1);
        fault(0, "h+d*n", -1);
        fault(0, "H", 0);
        fault(0, " h", 0);
        fault(0, "h ", 1);
        fault(0, "h +d", 1);
        fault(0, "-1", 0);
        fault(0, "+1", 0);
        fault(0, "h++d", 2);
        fault(0, "h<d", -1);
        fault(0, "h<d<n", 3);
        fault(0, "h<d=n", 3);
        fault(0, "h=d>n", 3);
        fault(0, "h<d&n>1", -1);
        fault(0, "h<d|n>1", -1);
        fault(0, "h<d&n>1&d=2|n", -1);
        fault(0, "(h<d)<n", -1);
        fault(0, "h<d+n<1", 5);
        fault(0, "h&&d", 2);
        fault(0, "h||d", 2);
        fault(0, "h==d", 2);
        fault(0, "h<", 2);
        fault(0, "(", 1);
        fault(0, "()", 1);
        fault(0, "(h", 2);
        fault(0, "(h)", -1);
        fault(0, "(h))", 3);
        fault(0, "h)", 1);
        fault(0, "!", 1);
        fault(0, "!h", -1);
        fault(0, "h!", 1);
        fault(0, "!!h", -1);
        fault(0, "h(d)", 1);
        fault(0, "(h)(d)", 3);
        fault(0, "(h)d", 3);
        fault(0, "h^d", 1);
        fault(0, "h\u0000", 1);
        fault(0, "\u00ff", 0);
        fault(0, "x(", 0);
        fault(0, "(h+x)+y", 3);
    }

    private static void openAtOnce() {
        fault(0, "(((((h)))))", -1);
        fault(0, "((((((h))))))", 5);
        fault(0, "!!!!!h", -1);
        fault(0, "!!!!!!h", 5);
        fault(0, "!(!(!h))", -1);
        fault(0, "!(!(!(h)))", 5);
        fault(0, "((((!(h)))))", 5);
        fault(0, "!!!!!h+!!!!!d", -1);
        fault(0, "!!!!!h+!!!!!!d", 12);
        fault(0, "(!!!!h*!!!!d)", -1);
        fault(0, "(!!!!h*!!!!(d))", 11);
        fault(0, "(((((h)))))+(((((d)))))", -1);
        fault(0, "!!!!!", 5);
        fault(0, "(((((", 5);
    }

    /** What a TEXT gives, by 4, and, if a NUMBER can tell it, whole. */
    private static void value(String text, int h, int dd, int n, int want) {
        DownByTheHour x = new DownByTheHour();
        Due.text(x, 0, text);
        d.due("13: " + text, x.law(0, h, dd, n), Math.floorMod(want, 4));
        Due.text(x, 1, text.replace('h', 'f').replace('d', 'm').replace('n', 'k'));
        d.due("13: whether " + text, x.law(1, h, dd, n), want != 0 ? 1 : 0);
        if (want >= 0 && want <= 9999) {
            Due.text(x, 1, "(" + text.replace('h', 'f').replace('d', 'm').replace('n', 'k') + ")=" + want);
            d.due("13: whole " + text, x.law(1, h, dd, n), 1);
        }
    }

    private static void values() {
        value("h+d*n", 1, 2, 3, 7);
        value("(h+d)*n", 1, 2, 3, 9);
        value("h-d-n", 9, 2, 3, 4);
        value("h/d/n", 70, 2, 3, 11);
        value("h/d*n", 7, 2, 3, 9);
        value("h%d", 7, 4, 0, 3);
        value("h%d", -7, 4, 0, -3);
        value("h/d", -7, 2, 0, -3);
        value("h/d", 5, 0, 0, 0);
        value("h%d", 5, 0, 0, 0);
        value("h/d", MIN, -1, 0, MIN);
        value("h%d", MIN, -1, 0, 0);
        value("h+d", MAX, 2, 0, MAX + 2);
        value("h*d", 65537, 65539, 0, 65537 * 65539);
        value("h|d", 2, 0, 0, 1);
        value("h|d", 0, 0, 0, 0);
        value("h|d", 0, 6, 0, 1);
        value("h&d", 2, 2, 0, 1);
        value("h&d", 2, 0, 0, 0);
        value("h&d", 0, 3, 0, 0);
        value("h|d&n", 2, 0, 0, 1);
        value("(h|d)&n", 2, 0, 0, 0);
        value("h<d", -1, 0, 0, 1);
        value("h<d", 0, 0, 0, 0);
        value("h>d", 1, 0, 0, 1);
        value("h>d", 0, 0, 0, 0);
        value("h=d", 3, 3, 0, 1);
        value("h=d", 3, 4, 0, 0);
        value("h<d+n", 3, 2, 2, 1);
        value("h<d", MIN, MAX, 0, 1);
        value("!h", 0, 0, 0, 1);
        value("!h", 3, 0, 0, 0);
        value("!!h", 3, 0, 0, 1);
        value("!h+d", 0, 2, 0, 3);
        value("!h*d", 0, 3, 0, 3);
        value("!(h=d)", 3, 3, 0, 0);
        value("h&d=n", 1, 2, 2, 1);
        value("0007+9999", 0, 0, 0, 10006);
        value("h", 5, 0, 0, 5);
        value("d", 0, 6, 0, 6);
        value("n", 0, 0, 7, 7);
        DownByTheHour x = new DownByTheHour();
        Due.text(x, 0, "h");
        d.due("13: rest from below 0", x.law(0, -1, 0, 0), 3);
        d.due("13: rest from below 0", x.law(0, -4, 0, 0), 0);
        d.due("13: rest from MIN", x.law(0, MIN + 1, 0, 0), 1);
        Due.text(x, 1, "f-m");
        d.due("13: below 0 isn't 0", x.law(1, 1, 2, 0), 1);
        d.due("13: 0", x.law(1, 2, 2, 0), 0);
        Due.text(x, 1, "k=3");
        d.due("13: the third name", x.law(1, 0, 0, 3), 1);
    }

    private static void defaults() {
        DownByTheHour x = new DownByTheHour();
        int[] pulls = {0, 0, 0, 1, 1, 1, 2, 2, 2, 3, 3, 3, 0};
        for (int h = 0; h < pulls.length; h++) {
            d.due("13: pull by " + h, x.law(0, h, 77, 77), pulls[h]);
        }
        d.due("13: -2", x.law(0, -2, 0, 0), 0);
        d.due("13: -3", x.law(0, -3, 0, 0), 3);
        d.due("13: -12", x.law(0, -12, 0, 0), 0);
        d.due("13: f 3", x.law(1, 3, 9, 9), 0);
        d.due("13: f 4", x.law(1, 4, 0, 0), 1);
        d.due("13: f MIN", x.law(1, MIN, 0, 0), 0);
        d.due("13: use 2", x.law(2, 0, 0, 0), Due.BEYOND);
        d.due("13: use -1", x.law(-1, 0, 0, 0), Due.BEYOND);
    }

    private static void untelling() {
        DownByTheHour x = new DownByTheHour();
        Due.text(x, 0, "3");
        Due.text(x, 1, "1");
        d.due("12: use 2", x.untell(2), Due.BEYOND);
        d.due("12: use -1", x.untell(-1), Due.BEYOND);
        d.due("12: there was", x.untell(0), 1);
        d.due("12: there was none", x.untell(0), 0);
        d.due("12: as at first", x.law(0, 3, 0, 0), 1);
        d.due("12: the other stays", x.law(1, 0, 0, 0), 1);
        d.due("12: the other", x.untell(1), 1);
        d.due("12: as at first", x.law(1, 0, 0, 0), 0);
        Due.feed(x, "h");
        x.untell(0);
        d.due("12: the tape stays", x.count(5), 1);
        d.due("12: a text that is 0 is a text", Due.text(x, 1, ""), -10);
        Due.text(x, 0, "0");
        d.due("12: a text that is 0 is a text", x.untell(0), 1);
    }
}
