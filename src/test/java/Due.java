/** Counts the answers that are not as due, and tells of each. */
public final class Due {
    static final int BEYOND = -1000000001;
    static final int NONE = -1000000002;
    static final int STATE = -1000000003;
    static final int FULL = -1000000004;
    static final int KIND = -1000000005;
    static final int PARTED = -1000000006;

    private final String test;
    private int wrong = 0;

    Due(String test) {
        this.test = test;
    }

    void due(String what, long got, long want) {
        if (got != want) {
            wrong++;
            System.out.println(test + ": " + what + " answered " + got + ", due is " + want);
        }
    }

    /** The bytes of a text come to THE TAPE. */
    static void feed(DownByTheHour x, String text) {
        for (int i = 0; i < text.length(); i++) {
            x.feed(text.charAt(i), 1);
        }
    }

    /** A text becomes the TEXT of a USE: what text() answers. */
    static int text(DownByTheHour x, int use, String text) {
        feed(x, text);
        return x.text(use);
    }

    /** A SHEET of these numbers. */
    static void sheet(DownByTheHour x, int sheet, int bits, int... numbers) {
        x.sheet(sheet, bits, numbers.length);
        for (int i = 0; i < numbers.length; i++) {
            x.put(sheet, i, numbers[i]);
        }
    }

    void end() {
        System.out.println(test + ": " + (wrong == 0 ? "as due" : wrong + " not as due"));
        if (wrong != 0) {
            System.exit(1);
        }
    }
}
