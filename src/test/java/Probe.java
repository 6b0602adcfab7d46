import java.util.ArrayList;
import java.util.List;

/** Asks a house what can be asked of it, in parts, as what is read by one part is gone for another. */
final class Probe {
    static final int PARTS = 3;
    private static final int[][] NAMED = {{0, 0, 0}, {1, 2, 3}, {-7, 5, 2}, {4, 9, 6}, {9999, 833, 6}};

    final List<String> calls = new ArrayList<>();
    final List<Long> answers = new ArrayList<>();
    private final DownByTheHour x;
    private final boolean isTraceAsked;

    Probe(DownByTheHour x, int part, boolean isTraceAsked) {
        this.x = x;
        this.isTraceAsked = isTraceAsked;
        if (part == 0) {
            lies();
            goesOn();
        } else if (part == 1) {
            tapeAndWaiting();
            tapeAndWaitingOfImage();
        } else {
            sheets();
        }
    }

    private void note(String call, long answer) {
        calls.add(call);
        answers.add(answer);
    }

    /** All that is asked without a change. */
    private void lies() {
        for (int what = 0; what <= 8; what++) {
            if (what != 7 || isTraceAsked) {
                note("count(" + what + ")", x.count(what));
            }
        }
        for (int cell = 0; cell < 36; cell++) {
            note("cellIs(" + cell + ", 0)", x.cellIs(cell, 0));
            note("cellIs(" + cell + ", 1)", x.cellIs(cell, 1));
        }
        for (int thing = 0; thing < x.count(0); thing++) {
            for (int what = 0; what <= 4; what++) {
                note("thingIs(" + thing + ", " + what + ")", x.thingIs(thing, what));
            }
        }
        for (int[] a : NAMED) {
            note("law(0, " + a[0] + ", ..)", x.law(0, a[0], a[1], a[2]));
            note("law(1, " + a[0] + ", ..)", x.law(1, a[0], a[1], a[2]));
        }
        for (int i = 0; isTraceAsked && i < x.count(7); i++) {
            note("body(" + i + ")", x.body(i));
        }
    }

    /** What comes of it, by draws, and what the IMAGE keeps. */
    private void goesOn() {
        note("clock(100)", x.clock(100));
        note("hours(2)", x.hours(2));
        note("shakes(2)", x.shakes(2));
        for (int thing = 0; thing < x.count(0); thing++) {
            note("then thingIs(" + thing + ", 2)", x.thingIs(thing, 2));
        }
        note("restore()", x.restore());
        lies();
        note("image()", x.image());
    }

    private void tapeAndWaiting() {
        note("feed(5, 1)", x.feed('5', 1));
        note("text(0)", x.text(0));
        for (int[] a : NAMED) {
            note("read, law(0, " + a[0] + ", ..)", x.law(0, a[0], a[1], a[2]));
        }
        note("untell(1)", x.untell(1));
        note("count(6)", x.count(6));
        note("check()", x.check());
        note("untell(0)", x.untell(0));
        note("untell(1)", x.untell(1));
    }

    private void tapeAndWaitingOfImage() {
        note("restore()", x.restore());
        note("restored, untell(0)", x.untell(0));
        note("restored, untell(1)", x.untell(1));
        note("restored, text(0)", x.text(0));
        note("restored, law(0, 5, 0, 2)", x.law(0, 5, 0, 2));
        note("restored, count(6)", x.count(6));
        note("restored, check()", x.check());
    }

    /** The numbers of each SHEET, its bits and how many it has. */
    private void sheets() {
        for (int sheet = 0; sheet < 4; sheet++) {
            String of = " of sheet " + sheet;
            note("judge" + of, x.judge(sheet));
            note("walls" + of, x.walls(sheet));
            for (int cell = 0; cell < 24; cell++) {
                note("cellIs(" + cell + ", 0)" + of, x.cellIs(cell, 0));
            }
            note("put 257" + of, x.put(sheet, 0, 257));
            note("walls" + of, x.walls(sheet));
            note("put 65537" + of, x.put(sheet, 0, 65537));
            note("walls" + of, x.walls(sheet));
            for (int i = 0; i <= 24; i++) {
                note("put 0 to " + i + of, x.put(sheet, i, 0));
            }
        }
    }
}
