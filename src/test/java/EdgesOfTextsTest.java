/** The edges of TEXTS, and of promises 10 to 13. */
public final class EdgesOfTextsTest {
    private static final Due d = new Due("EdgesOfTextsTest");
    private static final Edges e = new Edges(d);
    private static final int MIN = Integer.MIN_VALUE;
    private static final int MAX = Integer.MAX_VALUE;

    public static void main(String[] args) {
        feedBounds();
        feedFull();
        feedBytes();
        textBounds();
        emptyTape();
        fullTape();
        inPlaceOfOneAhead();
        faultKeeps();
        faultAtEachPlace();
        numbers();
        openAtOnce();
        closedAgain();
        endsTooEarly();
        oneComparing();
        namesOfEachUse();
        bytesThatAreNoSigns();
        untellBounds();
        lawBounds();
        rests();
        wraps();
        byNothing();
        truths();
        withoutATextRests();
        d.end();
    }

    /** A house with so many bytes on THE TAPE. */
    private static DownByTheHour withBytes(int n) {
        DownByTheHour x = new DownByTheHour();
        Houses.feed(x, Houses.SIXTY.substring(0, n));
        return x;
    }

    /** What text() answers, where a TEXT ahead is 2 by PULL, and 1 by BREAKS. */
    private static void fault(int use, String text, int place) {
        DownByTheHour x = new DownByTheHour();
        Houses.text(x, use, "2");
        d.due("11: text() of '" + text + "'", Houses.text(x, use, text), place < 0 ? 1 : -10 - place);
        d.due("11: the tape is empty behind '" + text + "'", x.count(5), 0);
        if (place >= 0) {
            d.due("11: the one ahead stays behind '" + text + "'", x.law(use, 0, 0, 0), use == 0 ? 2 : 1);
        }
        for (int k = 1; k <= 6; k++) {
            d.due("11: '" + text + "' is no ERROR " + k, x.told(k), 0);
        }
    }

    /** What a TEXT gives by BREAKS: whether it is a number, which an int of the test tells. */
    private static void gives(String text, int f, int m, int k, int want) {
        DownByTheHour x = new DownByTheHour();
        Houses.text(x, 1, text);
        d.due("13: whether " + text + " isn't 0", x.law(1, f, m, k), want != 0 ? 1 : 0);
        DownByTheHour y = new DownByTheHour();
        d.due("13: " + text + " is a TEXT", Houses.text(y, 1, "(" + text + ")=k"), 1);
        d.due("13: " + text + " by " + f + ", " + m, y.law(1, f, m, want), 1);
        d.due("13: " + text + " by " + f + ", " + m + " is no other", y.law(1, f, m, want + 1), 0);
    }

    // ---- promise 10

    private static void feedBounds() {
        e.bounds("10: n", Houses::lived, 1, 8, (x, v) -> x.feed(104, v));
        e.bounds("10: n of an empty tape", Houses::bare, 1, 8, (x, v) -> x.feed(-1L, v));
        e.none("10: n of a full tape, BEYOND ahead of FULL", Houses::full, Due.BEYOND, (x, v) -> x.feed(104, v),
            0, -1, 9, MIN, MAX);
        for (int n = 1; n <= 8; n++) {
            d.due("10: how many there are", new DownByTheHour().feed(0, n), n);
        }
    }

    private static void feedFull() {
        for (int n = 1; n <= 8; n++) {
            int bytes = n;
            d.due("10: up to sixty by " + n, withBytes(60 - n).feed(-1L, n), 60);
            e.refused("10: to sixty-one by " + n, () -> withBytes(61 - bytes), Due.FULL, x -> x.feed(-1L, bytes));
            e.refused("10: none but sixty by " + n, Houses::full, Due.FULL, x -> x.feed(-1L, bytes));
        }
        DownByTheHour x = withBytes(59);
        d.due("10: two are too many", x.feed('1' << 8 | '1', 2), Due.FULL);
        d.due("10: one isn't", x.feed('1', 1), 60);
        d.due("10: one more is", x.feed('1', 1), Due.FULL);
        d.due("10: none of them came", x.text(0), 1);
        d.due("10: it is empty again", x.feed('1', 1), 1);
    }

    private static void feedBytes() {
        DownByTheHour x = new DownByTheHour();
        d.due("10: the lowest byte alone", x.feed(0x3939393939393931L, 1), 1);
        d.due("10: a word below 0", x.feed(0xFF38373635343332L, 1), 2);
        Houses.feed(x, "=12");
        x.text(1);
        d.due("10: 12 is 12", x.law(1, 0, 0, 0), 1);
        d.due("10: eight bytes", x.feed(0x37252A2D2A2B2866L, 8), 8);
        d.due("10: the lowest first, of eight", x.text(1), -11);
        d.due("10: eight bytes, f*(m+k)", x.feed(0x296B2B6D282A66L | 0x3000000000000000L, 7), 7);
        d.due("10: the eighth isn't taken", x.text(1), 1);
        d.due("10: they tell", x.law(1, 2, 3, -3), 0);
        d.due("10: they tell", x.law(1, 2, 3, 3), 1);
        d.due("10: eight bytes, (f-m)*12", x.feed(0x32312A296D2D6628L, 8), 8);
        d.due("10: all eight are taken", x.text(1), 1);
        d.due("10: they tell", x.law(1, 7, 7, 0), 0);
        d.due("10: they tell", x.law(1, 7, 6, 0), 1);
    }

    // ---- promise 11

    private static void textBounds() {
        e.bounds("11: use", Houses::lived, 0, 1, (x, v) -> x.text(v));
        e.bounds("11: use, of an empty tape", Houses::bare, 0, 1, (x, v) -> x.text(v));
        e.bounds("11: use, of a full tape", Houses::full, 0, 1, (x, v) -> x.text(v));
        DownByTheHour x = withBytes(60);
        d.due("11: no such use", x.text(2), Due.BEYOND);
        d.due("11: THE TAPE stays", x.count(5), 60);
        d.due("11: and is read then", x.text(1), 1);
        d.due("11: it is empty", x.count(5), 0);
    }

    private static void emptyTape() {
        fault(0, "", 0);
        fault(1, "", 0);
        e.changesNothing("11: an empty tape changes nothing", Houses::bare, -10, x -> x.text(0));
        DownByTheHour x = new DownByTheHour();
        Houses.text(x, 0, "1");
        d.due("11: it is empty behind a TEXT", x.text(0), -10);
        d.due("11: an empty tape is no TEXT of 0", x.untell(1), 0);
        d.due("11: it leaves the one ahead", x.untell(0), 1);
    }

    private static void fullTape() {
        DownByTheHour x = new DownByTheHour();
        d.due("11: sixty bytes are a TEXT", Houses.text(x, 1, Houses.SIXTY), 1);
        d.due("11: all are read", x.law(1, 0, 0, 0), 1);
        d.due("11: their sum", Houses.text(x, 1, Houses.SIXTY.substring(0, 56) + "1=39"), 1);
        d.due("11: of twenty-eight and 11", x.law(1, 0, 0, 0), 0);
        fault(0, Houses.SIXTY.substring(0, 59) + "+", 60);
        fault(0, Houses.SIXTY.substring(0, 59) + "x", 59);
        fault(0, "x" + Houses.SIXTY.substring(1), 0);
        fault(0, Houses.SIXTY.substring(0, 57) + "(nn", 57);
        fault(0, Houses.SIXTY.substring(0, 57) + "+(n", 60);
        fault(0, Houses.SIXTY.substring(0, 57) + "+!n", -1);
        fault(0, Houses.SIXTY.substring(0, 57) + "+nn", 59);
        fault(1, "!" + "1&!".repeat(19) + "mk", 59);
        fault(1, "!" + "1&!".repeat(19) + "1", -1);
        fault(0, "(n)+".repeat(14) + "(nn)", 58);
        fault(0, "(n)+".repeat(14) + "(n)", -1);
        DownByTheHour y = new DownByTheHour();
        Houses.text(y, 0, "n+".repeat(29) + "n1");
        d.due("11: a FAULT at 59 leaves none", y.untell(0), 0);
        Houses.text(y, 0, "n+".repeat(29) + "1");
        d.due("11: twenty-nine and 1", y.law(0, 0, 0, 1), 30 % 4);
        d.due("11: each of them counts", y.law(0, 0, 0, 4), 1);
        Houses.text(y, 0, "!n" + "+n".repeat(29));
        d.due("11: sixty bytes of sixty signs, not n", y.law(0, 0, 0, 0), 1);
        d.due("11: and twenty-nine n", y.law(0, 0, 0, 1), 29 % 4);
        d.due("11: the last of them, too", y.law(0, 0, 0, 3), 29 * 3 % 4);
    }

    private static void inPlaceOfOneAhead() {
        DownByTheHour x = new DownByTheHour();
        Houses.text(x, 0, Houses.SIXTY);
        Houses.text(x, 0, "1");
        d.due("11: a short one in place of a long one", x.law(0, 9, 9, 9), 1);
        Houses.text(x, 0, Houses.SIXTY);
        d.due("11: a long one in place of a short one", x.law(0, 9, 9, 9), 40 % 4);
        Houses.text(x, 1, "0");
        d.due("11: the other USE isn't touched", x.law(0, 9, 9, 9), 0);
        d.due("11: it has its own", x.law(1, 9, 9, 9), 0);
        d.due("11: by its own text", x.untell(1), 1);
        d.due("11: in place of, not beside", x.untell(0), 1);
        d.due("11: none is left", x.untell(0), 0);
    }

    private static void faultKeeps() {
        DownByTheHour x = Houses.lived();
        Houses.feed(x, "+");
        int was = x.law(0, 7, 2, 3);
        d.due("11: a FAULT of d+2*+", x.text(0), -10 - 4);
        d.due("11: the one ahead stays", x.law(0, 7, 2, 3), was);
        d.due("11: it is none for the other USE", x.text(1), -10);
        for (int k = 1; k <= 6; k++) {
            d.due("40: a FAULT is no ERROR " + k, x.told(k), Houses.lived().told(k));
        }
        DownByTheHour y = new DownByTheHour();
        Houses.text(y, 0, "h)");
        d.due("11: without one ahead there is none behind a FAULT", y.untell(0), 0);
        d.due("11: h by 3 still", y.law(0, 5, 0, 0), 1);
    }

    /** FAULTS from the first byte to the one behind the last. */
    private static void faultAtEachPlace() {
        for (int place = 0; place < 60; place++) {
            String right = place % 2 == 0 ? "n+".repeat(place / 2) : "n+".repeat(place / 2) + "n";
            fault(0, right + "$", place);
            fault(0, right + ")", place);
            if (place % 2 == 0) {
                fault(0, right, place);
                fault(0, right + "+", place);
            } else {
                fault(0, right, -1);
                fault(0, right + "!", place);
                fault(0, right + "(", place);
            }
        }
    }

    private static void numbers() {
        fault(0, "0", -1);
        fault(0, "9", -1);
        fault(0, "99", -1);
        fault(0, "999", -1);
        fault(0, "9999", -1);
        fault(0, "0000", -1);
        fault(0, "10000", 4);
        fault(0, "00000", 4);
        fault(0, "n+12345", 6);
        fault(0, "(12345", 5);
        fault(0, "!12345", 5);
        fault(0, "1234n", 4);
        fault(0, "1234(", 4);
        fault(0, "1234!", 4);
        fault(0, "1234+5678", -1);
        fault(0, "1234+56789", 9);
        fault(0, "/1", 0);
        fault(0, ":", 0);
        fault(0, "1:", 1);
        gives("0", 0, 0, 0, 0);
        gives("9", 0, 0, 0, 9);
        gives("10", 0, 0, 0, 10);
        gives("999", 0, 0, 0, 999);
        gives("9999", 0, 0, 0, 9999);
        gives("0009", 0, 0, 0, 9);
        gives("1234", 0, 0, 0, 1234);
        gives("5678", 0, 0, 0, 5678);
    }

    private static void openAtOnce() {
        String[] five = {"!!!!!", "(((((", "!(!(!", "(!(!(", "!!(((", "(((!!", "((!!(", "!((((", "(!!!!"};
        for (String open : five) {
            String closed = ")".repeat((int) open.chars().filter(c -> c == '(').count());
            fault(0, open + "n" + closed, -1);
            fault(0, open + "!n" + closed, 5);
            fault(0, open + "(n)" + closed, 5);
            fault(0, open, 5);
            fault(0, "n+" + open + "!", 7);
            fault(0, "n+" + open + "(", 7);
            fault(1, open + "1" + closed, -1);
            fault(1, open + "!1" + closed, 5);
        }
        fault(0, "!!!!(n)", -1);
        fault(0, "!!!!(!n)", 5);
        fault(0, "((((!n))))", -1);
        fault(0, "((((!!n))))", 5);
    }

    /** What is closed isn't open any more: ! behind its Q, ( behind its ). */
    private static void closedAgain() {
        fault(0, "(((((n)))))+(((((n)))))", -1);
        fault(0, "!!!!!n+!!!!!n", -1);
        fault(0, "!!!!!n+(((((n)))))", -1);
        fault(0, "((((!n+!n))))", -1);
        fault(0, "((((!n+!!n))))", 8);
        fault(0, "((((!n)!n", 7);
        fault(0, "((((!n)+!!n)))", -1);
        fault(0, "((((!n)+!!!n)))", 10);
        fault(0, "((((!n)+!(n))))", -1);
        fault(0, "((((!n)+((n)))))", -1);
        fault(0, "((((!n)+(((n))))))", 10);
        fault(0, "!(((n)+((n))))", -1);
        fault(0, "!(((n)+(((n)))))", 9);
        fault(0, "(n)+(n)*(n)<(n)&(n)|(n)", -1);
        fault(0, "!n+!n*!n<!n&!n|!n", -1);
        gives("!!!!f", 0, 0, 0, 0);
        gives("!!!!f", 7, 0, 0, 1);
        gives("((((f))))", 7, 0, 0, 7);
        gives("!(f)+!(m)", 0, 0, 0, 2);
    }

    /** FAULT is how many bytes there are, where a TEXT ends too early. */
    private static void endsTooEarly() {
        String[] early = {
            "!", "(", "n+", "n-", "n*", "n/", "n%", "n<", "n=", "n>", "n&", "n|", "(n", "(n+", "((n)", "!(", "!(n",
            "n+!", "n+(", "n<(n>(n", "(n|n", "(n&(n))+(n", "(((((", "!!!!!", "((((!", "n<n+", "n<n&", "1234%",
        };
        for (String text : early) {
            fault(0, text, text.length());
        }
    }

    private static void oneComparing() {
        String[] signs = {"<", "=", ">"};
        for (String first : signs) {
            for (String second : signs) {
                fault(0, "n" + first + "n" + second + "n", 3);
                fault(0, "n" + first + "n+n" + second, 5);
                fault(0, "(n" + first + "n)" + second + "n", -1);
                fault(0, "n" + first + "(n" + second + "n)", -1);
                fault(0, "n" + first + "n&n" + second + "n", -1);
                fault(0, "n" + first + "n|n" + second + "n", -1);
                fault(0, "(n" + first + "n" + second + "n)", 4);
                fault(0, "(n" + first + "n)" + second + "n" + first + "n", 7);
                fault(0, "n" + first + second + "n", 2);
            }
        }
    }

    private static void namesOfEachUse() {
        for (char c = 0; c < 256; c++) {
            boolean isNumber = c >= '0' && c <= '9';
            boolean opens = c == '!' || c == '(';
            for (int use = 0; use <= 1; use++) {
                boolean isName = (use == 0 ? "hdn" : "fmk").indexOf(c) >= 0;
                fault(use, String.valueOf(c), isNumber || isName ? -1 : opens ? 1 : 0);
                fault(use, "1+" + c, isNumber || isName ? -1 : opens ? 3 : 2);
            }
        }
    }

    private static void bytesThatAreNoSigns() {
        for (char c = 0; c < 256; c++) {
            boolean joins = "|&<=>+-*/%".indexOf(c) >= 0;
            fault(0, "n" + c, joins ? 2 : 1);
            fault(0, "n" + c + "n", joins ? -1 : 1);
            fault(1, "1+m" + c, joins ? 4 : 3);
            fault(0, "(n" + c, c == ')' ? -1 : joins ? 3 : 2);
        }
    }

    // ---- promise 12

    private static void untellBounds() {
        e.bounds("12: use", Houses::lived, 0, 1, (x, v) -> x.untell(v));
        e.bounds("12: use, of none", Houses::bare, 0, 1, (x, v) -> x.untell(v));
        e.changesNothing("12: there is none of PULL", Houses::bare, 0, x -> x.untell(0));
        e.changesNothing("12: there is none of BREAKS", Houses::bare, 0, x -> x.untell(1));
        for (int use = 0; use <= 1; use++) {
            DownByTheHour x = Houses.full();
            d.due("12: there was one of " + use, x.untell(use), 1);
            d.due("12: there is none of " + use, x.untell(use), 0);
            d.due("12: the other is still, " + use, x.untell(1 - use), 1);
            d.due("12: sixty bytes stay, " + use, x.count(5), 60);
        }
        DownByTheHour y = new DownByTheHour();
        Houses.text(y, 1, Houses.SIXTY);
        y.untell(1);
        d.due("12: a new one has nothing of the old one", Houses.text(y, 1, "0"), 1);
        d.due("12: it is 0", y.law(1, 9, 9, 9), 0);
    }

    // ---- promise 13

    private static void lawBounds() {
        e.bounds("13: use", Houses::lived, 0, 1, (x, v) -> x.law(v, 1, 2, 3));
        e.bounds("13: use, without TEXTS", Houses::bare, 0, 1, (x, v) -> x.law(v, MIN, MAX, 0));
        e.changesNothing("13: asked of PULL", Houses::lived, 0, x -> x.law(0, 40, 1, 0));
        e.changesNothing("13: asked of BREAKS", Houses::lived, 1, x -> x.law(1, 4, 0, 0));
        int[] any = {MIN, MIN + 1, -1, 0, 1, MAX - 1, MAX};
        for (int v : any) {
            DownByTheHour x = new DownByTheHour();
            Houses.text(x, 0, "h");
            d.due("13: a any number, " + v, x.law(0, v, 0, 0), v & 3);
            Houses.text(x, 0, "d");
            d.due("13: b any number, " + v, x.law(0, 0, v, 0), v & 3);
            Houses.text(x, 0, "n");
            d.due("13: c any number, " + v, x.law(0, 0, 0, v), v & 3);
            Houses.text(x, 1, "f");
            d.due("13: a any number, " + v, x.law(1, v, 0, 0), v == 0 ? 0 : 1);
            Houses.text(x, 1, "m");
            d.due("13: b any number, " + v, x.law(1, 0, v, 0), v == 0 ? 0 : 1);
            Houses.text(x, 1, "k");
            d.due("13: c any number, " + v, x.law(1, 0, 0, v), v == 0 ? 0 : 1);
        }
    }

    /** PULL is the rest by 4, from below 0 on 4 more. */
    private static void rests() {
        DownByTheHour x = new DownByTheHour();
        Houses.text(x, 0, "h");
        int[] rests = {0, 1, 2, 3, 0, 1, 2, 3, 0, 1, 2, 3, 0};
        for (int i = 0; i < rests.length; i++) {
            d.due("13: the rest of " + (i - 4), x.law(0, i - 4, 0, 0), rests[i]);
        }
        d.due("13: the rest of MIN", x.law(0, MIN, 0, 0), 0);
        d.due("13: the rest of MIN + 3", x.law(0, MIN + 3, 0, 0), 3);
        d.due("13: the rest of MAX", x.law(0, MAX, 0, 0), 3);
    }

    private static void wraps() {
        gives("f+m", MAX, 1, 0, MIN);
        gives("f+m", MIN, -1, 0, MAX);
        gives("f+m", MIN, MIN, 0, 0);
        gives("f-m", MIN, 1, 0, MAX);
        gives("f-m", MAX, -1, 0, MIN);
        gives("f-m", 0, MIN, 0, MIN);
        gives("f*m", MAX, 2, 0, -2);
        gives("f*m", MIN, -1, 0, MIN);
        gives("f*m", 65536, 65536, 0, 0);
        gives("f*m", 65536, 32768, 0, MIN);
        gives("9999*9999*9999", 0, 0, 0, 9999 * 9999 * 9999);
        gives("f/m", MIN, -1, 0, MIN);
        gives("f%m", MIN, -1, 0, 0);
        gives("f/m", MIN, 1, 0, MIN);
        gives("f/m", MAX, -1, 0, -MAX);
        gives("f<m", MAX, MIN, 0, 0);
        gives("f>m", MAX, MIN, 0, 1);
        gives("f<m", MIN, MAX, 0, 1);
        gives("f+1>f", MAX, 0, 0, 0);
    }

    /** / and % by 0 are 0; / is cut toward 0, % the rest that it leaves. */
    private static void byNothing() {
        int[] any = {MIN, -7, -1, 0, 1, 7, MAX};
        for (int v : any) {
            gives("f/0", v, 0, 0, 0);
            gives("f%0", v, 0, 0, 0);
            gives("f/m", v, 0, 0, 0);
            gives("f%m", v, 0, 0, 0);
            gives("f/1", v, 0, 0, v);
            gives("f%1", v, 0, 0, 0);
        }
        gives("1+f/0", 5, 0, 0, 1);
        gives("f/(m-m)", 5, 3, 0, 0);
        gives("f/m/0", 8, 2, 0, 0);
        gives("f/m", 7, 2, 0, 3);
        gives("f/m", -7, 2, 0, -3);
        gives("f/m", 7, -2, 0, -3);
        gives("f/m", -7, -2, 0, 3);
        gives("f%m", 7, 2, 0, 1);
        gives("f%m", -7, 2, 0, -1);
        gives("f%m", 7, -2, 0, 1);
        gives("f%m", -7, -2, 0, -1);
        gives("f/m", 1, 2, 0, 0);
        gives("f/m", -1, 2, 0, 0);
        DownByTheHour x = new DownByTheHour();
        Houses.text(x, 0, "h/d");
        d.due("13: PULL by 0", x.law(0, 7, 0, 0), 0);
        Houses.text(x, 0, "h%d");
        d.due("13: PULL's rest by 0", x.law(0, 7, 0, 0), 0);
        d.due("17: by the DAY 0", x.pull(11), 0);
        d.due("17: by the DAY 1", x.pull(12), 0);
        d.due("17: by the DAY 2", x.pull(25), 1);
    }

    /** What is not 0 is true, and true is 1; all is worked out. */
    private static void truths() {
        int[] not0 = {MIN, -1, 1, 2, MAX};
        for (int v : not0) {
            gives("f|m", v, 0, 0, 1);
            gives("f|m", 0, v, 0, 1);
            gives("f|m", v, v, 0, 1);
            gives("f&m", v, v, 0, 1);
            gives("f&m", v, 0, 0, 0);
            gives("f&m", 0, v, 0, 0);
            gives("!f", v, 0, 0, 0);
            gives("!!f", v, 0, 0, 1);
            gives("f=m", v, v, 0, 1);
            gives("f<m", v, v, 0, 0);
            gives("f>m", v, v, 0, 0);
        }
        gives("f|m", 0, 0, 0, 0);
        gives("f&m", 0, 0, 0, 0);
        gives("!f", 0, 0, 0, 1);
        gives("f<m", 0, 1, 0, 1);
        gives("f>m", 1, 0, 0, 1);
        gives("f=m", 0, 1, 0, 0);
        gives("f|m", 1, -1, 0, 1);
        gives("f&m", 1, 2, 0, 1);
        gives("f|m&0", 1, 1, 0, 1);
        gives("0&f|m", 0, 1, 0, 1);
    }

    private static void withoutATextRests() {
        DownByTheHour x = new DownByTheHour();
        int[] h = {-13, -12, -10, -9, -7, -6, -4, -3, -2, -1, 0, 1, 2, 3, 11, 12};
        int[] pulls = {0, 0, 1, 1, 2, 2, 3, 3, 0, 0, 0, 0, 0, 1, 3, 0};
        for (int i = 0; i < h.length; i++) {
            d.due("13: " + h[i] + " by 3", x.law(0, h[i], 9, 9), pulls[i]);
        }
        d.due("13: MAX by 3", x.law(0, MAX, 0, 0), MAX / 3 & 3);
        d.due("13: MIN by 3", x.law(0, MIN, 0, 0), MIN / 3 & 3);
        int[] f = {MIN, -1, 0, 3, 4, MAX};
        for (int v : f) {
            d.due("13: " + v + " above 3", x.law(1, v, 9, 9), v > 3 ? 1 : 0);
        }
    }
}
