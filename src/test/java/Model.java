import java.util.ArrayList;
import java.util.Arrays;
import java.util.HashSet;
import java.util.List;
import java.util.Set;
import java.util.TreeSet;

/** The document once more, written plainly and with the whole library, to be held against the class. */
final class Model {
    static final int BEYOND = 1;
    static final int NONE = 2;
    static final int STATE = 3;
    static final int FULL = 4;
    static final int KIND = 5;
    static final int PARTED = 6;
    private static final int[] DOWN = {1, 0, -1, 0};
    private static final int[] RIGHT = {0, -1, 0, 1};

    private static final class Refused extends RuntimeException {
        private static final long serialVersionUID = 1L;
        final int which;

        Refused(int which) {
            super(null, null, false, false);
            this.which = which;
        }
    }

    // ---- KINDS, their falls and voices, as classes under classes

    private static class Thing {
        int m;
        int cell;
        int number;
        boolean broken;
        int fell;

        Thing like(Thing other) {
            m = other.m;
            cell = other.cell;
            number = other.number;
            broken = other.broken;
            fell = other.fell;
            return this;
        }

        int fall(World w, int pull) {
            return w.slide(this, pull, 99);
        }

        int creaks(int x, List<Integer> trace) {
            trace.add(10);
            return x + number;
        }

        int rattles(int x, List<Integer> trace) {
            trace.add(11);
            return creaks(x, trace) * 2;
        }

        int groans(int x, List<Integer> trace) {
            trace.add(12);
            return rattles(x, trace) - m;
        }

        int parts(int x, List<Integer> trace) {
            trace.add(13);
            if (m == number) {
                throw new Refused(PARTED);
            }
            return x / (m - number);
        }
    }

    private static class Roller extends Thing {
        @Override
        int fall(World w, int pull) {
            int far = super.fall(w, pull);
            w.slide(this, (pull + 1) % 4, 1);
            return far;
        }

        @Override
        int creaks(int x, List<Integer> trace) {
            trace.add(20);
            return super.creaks(x, trace) - 4;
        }

        @Override
        int parts(int x, List<Integer> trace) {
            trace.add(21);
            return super.parts(x, trace) + rattles(1, trace);
        }
    }

    private static class Screwed extends Thing {
        @Override
        int fall(World w, int pull) {
            return m % 4 == pull ? 0 : super.fall(w, pull);
        }

        @Override
        int rattles(int x, List<Integer> trace) {
            trace.add(30);
            return 0 - super.rattles(x, trace);
        }
    }

    private static class Walker extends Thing {
        @Override
        int fall(World w, int pull) {
            if (w.slide(this, pull, 1) == 1) {
                return 1;
            }
            w.slide(this, (pull + 1) % 4, 1);
            return 0;
        }

        @Override
        int groans(int x, List<Integer> trace) {
            trace.add(40);
            return super.groans(x / 2, trace);
        }
    }

    private static class Ball extends Roller {
        @Override
        int fall(World w, int pull) {
            int first = super.fall(w, pull);
            int second = super.fall(w, pull);
            return first > second ? first : second;
        }

        @Override
        int creaks(int x, List<Integer> trace) {
            trace.add(50);
            return super.creaks(x, trace) * 3;
        }

        @Override
        int groans(int x, List<Integer> trace) {
            trace.add(51);
            return super.groans(x, trace) ^ number;
        }
    }

    private static class Bolted extends Screwed {
        @Override
        int fall(World w, int pull) {
            return (m & 1) == 1 ? 0 : super.fall(w, pull);
        }

        @Override
        int rattles(int x, List<Integer> trace) {
            trace.add(60);
            return super.rattles(x + 1, trace);
        }
    }

    private static class Smoke extends Thing {
        @Override
        int fall(World w, int pull) {
            return w.slide(this, (pull + 2) % 4, 99);
        }

        @Override
        int creaks(int x, List<Integer> trace) {
            trace.add(70);
            return 9;
        }

        @Override
        int rattles(int x, List<Integer> trace) {
            trace.add(71);
            return super.rattles(x, trace) + m;
        }
    }

    private static final Class<?>[] CLASSES = {
        Thing.class, Roller.class, Screwed.class, Walker.class, Ball.class, Bolted.class, Smoke.class,
    };

    private static Thing ofKind(int kind) {
        switch (kind) {
            case 0: return new Thing();
            case 1: return new Roller();
            case 2: return new Screwed();
            case 3: return new Walker();
            case 4: return new Ball();
            case 5: return new Bolted();
            default: return new Smoke();
        }
    }

    private static int kindOf(Thing thing) {
        return Arrays.asList(CLASSES).indexOf(thing.getClass());
    }

    // ---- all that an IMAGE keeps

    private static final class World {
        Set<Integer> walls = new TreeSet<>();
        List<Thing> things = new ArrayList<>();
        int hour = 0;
        int z = 1;
        StringBuilder tape = new StringBuilder();
        String[] texts = new String[2];
        List<Integer> waiting = new ArrayList<>();

        World copy() {
            World w = new World();
            w.walls = new TreeSet<>(walls);
            for (Thing thing : things) {
                w.things.add(ofKind(kindOf(thing)).like(thing));
            }
            w.hour = hour;
            w.z = z;
            w.tape = new StringBuilder(tape);
            w.texts = texts.clone();
            w.waiting = new ArrayList<>(waiting);
            return w;
        }

        Thing in(int cell) {
            for (Thing thing : things) {
                if (thing.cell == cell) {
                    return thing;
                }
            }
            return null;
        }

        int slide(Thing thing, int way, int most) {
            int by = 0;
            while (by < most) {
                int next = neighbour(thing.cell, way);
                if (next < 0 || walls.contains(next) || in(next) != null) {
                    break;
                }
                thing.cell = next;
                by++;
            }
            return by;
        }

        int lands(int cell, int way) {
            int next = neighbour(cell, way);
            return next < 0 || walls.contains(next) ? cell : lands(next, way);
        }

        int law(int use, int a, int b, int c) {
            if (use == 0) {
                int v = texts[0] == null ? a / 3 : new Sum(texts[0], "hdn", a, b, c).t();
                v %= 4;
                return v < 0 ? v + 4 : v;
            }
            return texts[1] == null ? (a > 3 ? 1 : 0) : new Sum(texts[1], "fmk", a, b, c).t() != 0 ? 1 : 0;
        }

        int pull(int at) {
            return law(0, at, at / 12, things.size());
        }

        void pass(int pull, int held) {
            for (Thing thing : things) {
                thing.fell = (held & 1 << thing.number) != 0 ? 0 : thing.fall(this, pull);
                if (law(1, thing.fell, thing.m, kindOf(thing)) == 1) {
                    thing.broken = true;
                }
            }
            hour++;
        }

        int broken() {
            int sum = 0;
            for (Thing thing : things) {
                sum += thing.broken ? 1 : 0;
            }
            return sum;
        }
    }

    private static int neighbour(int cell, int way) {
        int row = cell / 6 + DOWN[way];
        int column = cell % 6 + RIGHT[way];
        return row < 0 || row > 5 || column < 0 || column > 5 ? -1 : row * 6 + column;
    }

    /** Works out a TEXT that has no FAULT while it reads it. */
    private static final class Sum {
        final String text;
        final String names;
        final int[] values;
        int at = 0;

        Sum(String text, String names, int... values) {
            this.text = text;
            this.names = names;
            this.values = values;
        }

        boolean goesOn(String signs) {
            return at < text.length() && signs.indexOf(text.charAt(at)) >= 0;
        }

        int t() {
            int v = a();
            while (goesOn("|")) {
                at++;
                int w = a();
                v = v != 0 | w != 0 ? 1 : 0;
            }
            return v;
        }

        int a() {
            int v = b();
            while (goesOn("&")) {
                at++;
                int w = b();
                v = v != 0 & w != 0 ? 1 : 0;
            }
            return v;
        }

        int b() {
            int v = s();
            if (goesOn("<=>")) {
                char sign = text.charAt(at++);
                int w = s();
                int order = Integer.compare(v, w);
                return order == (sign == '<' ? -1 : sign == '=' ? 0 : 1) ? 1 : 0;
            }
            return v;
        }

        int s() {
            int v = p();
            while (goesOn("+-")) {
                char sign = text.charAt(at++);
                int w = p();
                v = sign == '+' ? v + w : v - w;
            }
            return v;
        }

        int p() {
            int v = q();
            while (goesOn("*/%")) {
                char sign = text.charAt(at++);
                int w = q();
                if (sign == '*') {
                    v = v * w;
                } else if (w == 0) {
                    v = 0;
                } else {
                    v = sign == '/' ? v / w : v % w;
                }
            }
            return v;
        }

        int q() {
            char sign = text.charAt(at++);
            if (sign == '!') {
                return q() == 0 ? 1 : 0;
            }
            if (sign == '(') {
                int v = t();
                at++;
                return v;
            }
            if (names.indexOf(sign) >= 0) {
                return values[names.indexOf(sign)];
            }
            int from = at - 1;
            while (goesOn("0123456789")) {
                at++;
            }
            return Integer.parseInt(text.substring(from, at));
        }
    }

    /** The FAULT of a text, byte by byte with a stack of what is open; -1 if there is none. */
    private static int fault(String text, String names) {
        List<Character> open = new ArrayList<>();
        List<Boolean> compared = new ArrayList<>();
        boolean hasCompared = false;
        boolean wantsFactor = true;
        int digits = 0;
        for (int i = 0; i < text.length(); i++) {
            char c = text.charAt(i);
            boolean isDigit = c >= '0' && c <= '9';
            if (wantsFactor) {
                if (c == '!' || c == '(') {
                    if (open.size() == 5) {
                        return i;
                    }
                    open.add(c);
                    if (c == '(') {
                        compared.add(hasCompared);
                        hasCompared = false;
                    }
                    continue;
                }
                if (!isDigit && names.indexOf(c) < 0) {
                    return i;
                }
                wantsFactor = false;
                digits = isDigit ? 1 : 0;
            } else if (isDigit && digits > 0 && digits < 4) {
                digits++;
                continue;
            } else {
                digits = 0;
                if (c == ')') {
                    if (compared.isEmpty()) {
                        return i;
                    }
                    open.remove(open.size() - 1);
                    hasCompared = compared.remove(compared.size() - 1);
                } else if ("+-*/%".indexOf(c) >= 0) {
                    wantsFactor = true;
                } else if ("<=>".indexOf(c) >= 0 && !hasCompared) {
                    hasCompared = true;
                    wantsFactor = true;
                } else if (c == '|' || c == '&') {
                    hasCompared = false;
                    wantsFactor = true;
                } else {
                    return i;
                }
            }
            if (!wantsFactor) {
                while (!open.isEmpty() && open.get(open.size() - 1) == '!') {
                    open.remove(open.size() - 1);
                }
            }
        }
        return wantsFactor || !compared.isEmpty() ? text.length() : -1;
    }

    // ---- what an IMAGE doesn't keep

    private World world = new World();
    private World kept = null;
    private int images = 0;
    private final long[][] sheets = new long[4][];
    private final int[] bits = new int[4];
    private List<Integer> trace = new ArrayList<>();
    private final int[] told = new int[7];

    /** What a call answers. */
    long call(String name, long... a) {
        try {
            return answer(name, a);
        } catch (Refused e) {
            told[e.which]++;
            return -1000000000L - e.which;
        }
    }

    private static void ask(int which, boolean isRight) {
        if (!isRight) {
            throw new Refused(which);
        }
    }

    private static void within(long v, long least, long most) {
        ask(BEYOND, v >= least && v <= most);
    }

    private Thing the(long thing) {
        within(thing, 0, world.things.size() - 1);
        return world.things.get((int) thing);
    }

    private static int cell(long cell) {
        within(cell, 0, 35);
        return (int) cell;
    }

    private void noWall(long cell) {
        ask(STATE, !world.walls.contains((int) cell));
    }

    private long answer(String name, long[] a) {
        switch (name) {
            case "wall": case "cellIs": case "thing": case "thingIs": case "become": case "as": case "carry":
            case "clock":
                return things(name, a);
            case "feed": case "text": case "untell": case "law":
                return texts(name, a);
            case "hours": case "shakes": case "seed": case "pull":
                return hours(name, a);
            case "then": case "when": case "farthest": case "screws":
                return thoughts(name, a);
            case "lands": case "sources": case "rooms": case "soonest": case "shut": case "fits":
                return ways(name, a);
            case "sheet": case "put": case "move": case "walls": case "judge":
                return sheets(name, a);
            default:
                return rest(name, a);
        }
    }

    private long things(String name, long[] a) {
        switch (name) {
            case "wall": {
                int cell = cell(a[0]);
                within(a[1], 0, 1);
                ask(STATE, a[1] == 0 || world.in(cell) == null);
                return (a[1] == 1 ? !world.walls.add(cell) : world.walls.remove(cell)) ? 1 : 0;
            }
            case "cellIs": {
                int cell = cell(a[0]);
                within(a[1], 0, 1);
                if (a[1] == 0) {
                    return world.walls.contains(cell) ? 1 : 0;
                }
                return world.in(cell) == null ? -1 : world.in(cell).number;
            }
            case "thing": {
                within(a[0], 0, 69);
                int cell = cell(a[1]);
                ask(FULL, world.things.size() < 6);
                noWall(cell);
                ask(STATE, world.in(cell) == null);
                Thing thing = ofKind((int) a[0] / 10);
                thing.m = (int) a[0] % 10;
                thing.cell = cell;
                thing.number = world.things.size();
                world.things.add(thing);
                return thing.number;
            }
            case "thingIs": {
                Thing thing = the(a[0]);
                within(a[1], 0, 4);
                return new int[] {kindOf(thing), thing.m, thing.cell, thing.broken ? 1 : 0, thing.fell}[(int) a[1]];
            }
            case "become": {
                Thing was = the(a[0]);
                within(a[1], 0, 69);
                Thing is = ofKind((int) a[1] / 10).like(was);
                is.m = (int) a[1] % 10;
                world.things.set(was.number, is);
                return kindOf(was);
            }
            case "as": {
                Thing thing = the(a[0]);
                within(a[1], 0, 6);
                ask(KIND, CLASSES[(int) a[1]].isInstance(thing));
                return thing.m;
            }
            case "carry": {
                Thing thing = the(a[0]);
                int cell = cell(a[1]);
                noWall(cell);
                ask(STATE, world.in(cell) == null || world.in(cell) == thing);
                int was = thing.cell;
                thing.cell = cell;
                return was;
            }
            default: {
                within(a[0], 0, 9999);
                int was = world.hour;
                world.hour = (int) a[0];
                return was;
            }
        }
    }

    private long texts(String name, long[] a) {
        if (name.equals("feed")) {
            within(a[1], 1, 8);
            ask(FULL, world.tape.length() + a[1] <= 60);
            for (int i = 0; i < a[1]; i++) {
                world.tape.append((char) (a[0] >> 8 * i & 255));
            }
            return world.tape.length();
        }
        within(a[0], 0, 1);
        int use = (int) a[0];
        if (name.equals("untell")) {
            int was = world.texts[use] == null ? 0 : 1;
            world.texts[use] = null;
            return was;
        }
        if (name.equals("law")) {
            return world.law(use, (int) a[1], (int) a[2], (int) a[3]);
        }
        String text = world.tape.toString();
        world.tape.setLength(0);
        int fault = fault(text, use == 0 ? "hdn" : "fmk");
        if (fault >= 0) {
            return -10 - fault;
        }
        world.texts[use] = text;
        return 1;
    }

    private long hours(String name, long[] a) {
        if (name.equals("seed")) {
            int was = world.z;
            world.z = (int) a[0];
            return was;
        }
        if (name.equals("pull")) {
            within(a[0], 0, 9999);
            return world.pull((int) a[0]);
        }
        boolean byDraws = name.equals("shakes");
        within(a[0], 1, byDraws ? 40 : 100);
        ask(STATE, world.hour + a[0] <= 9999);
        for (int i = 0; i < a[0]; i++) {
            int pull = world.pull(world.hour);
            if (byDraws) {
                world.z = world.z * 1103515245 + 12345;
                pull = (world.z >>> 8) % 4;
            }
            world.pass(pull, 0);
        }
        return world.broken();
    }

    private long thoughts(String name, long[] a) {
        World w = world.copy();
        switch (name) {
            case "then": {
                the(a[0]);
                within(a[1], 0, 100);
                for (int i = 0; i < a[1]; i++) {
                    w.pass(w.pull(w.hour), 0);
                }
                return w.things.get((int) a[0]).cell;
            }
            case "when": {
                the(a[0]);
                int cell = cell(a[1]);
                for (int i = 0; i <= 100; i++) {
                    if (w.things.get((int) a[0]).cell == cell) {
                        return i;
                    }
                    w.pass(w.pull(w.hour), 0);
                }
                throw new Refused(NONE);
            }
            case "farthest": {
                within(a[0], 1, 60);
                within(a[1], 0, 2);
                int[] best = {0, -1, 0};
                for (int i = 1; i <= a[0]; i++) {
                    w.pass(w.pull(w.hour), 0);
                    for (Thing thing : w.things) {
                        if (thing.fell > best[0]) {
                            best = new int[] {thing.fell, thing.number, i};
                        }
                    }
                }
                return best[(int) a[1]];
            }
            default: {
                within(a[0], 1, 60);
                within(a[1], 0, 5);
                within(a[2], 0, 1);
                int best = (1 << world.things.size()) - 1;
                for (int held = best; held >= 0; held--) {
                    if (Integer.bitCount(held) <= Integer.bitCount(best) && keeps(held, a[0], a[1])) {
                        best = held;
                    }
                }
                return a[2] == 0 ? Integer.bitCount(best) : best;
            }
        }
    }

    private boolean keeps(int held, long n, long most) {
        World w = world.copy();
        for (int i = 0; i < n; i++) {
            w.pass(w.pull(w.hour), held);
            for (Thing thing : w.things) {
                if (thing.fell > most) {
                    return false;
                }
            }
        }
        return true;
    }

    private static long bits(Set<Integer> cells) {
        long set = 0;
        for (int cell : cells) {
            set |= 1L << cell;
        }
        return set;
    }

    private Set<Integer> rooms(int from, int n) {
        Set<Integer> now = new HashSet<>(Set.of(from));
        for (int i = 0; i < n; i++) {
            Set<Integer> next = new HashSet<>(now);
            for (int cell : now) {
                next.add(world.lands(cell, world.pull(world.hour + i)));
            }
            now = next;
        }
        return now;
    }

    private long ways(String name, long[] a) {
        switch (name) {
            case "lands": case "sources": {
                int cell = cell(a[0]);
                within(a[1], 0, 3);
                noWall(cell);
                if (name.equals("lands")) {
                    return world.lands(cell, (int) a[1]);
                }
                Set<Integer> set = new HashSet<>();
                for (int from = 0; from < 36; from++) {
                    if (!world.walls.contains(from) && world.lands(from, (int) a[1]) == cell) {
                        set.add(from);
                    }
                }
                return bits(set);
            }
            case "rooms": {
                int cell = cell(a[0]);
                within(a[1], 0, 100);
                noWall(cell);
                return bits(rooms(cell, (int) a[1]));
            }
            case "soonest": {
                int from = cell(a[0]);
                int to = cell(a[1]);
                noWall(from);
                noWall(to);
                for (int n = 0; n <= 100; n++) {
                    if (rooms(from, n).contains(to)) {
                        return n;
                    }
                }
                throw new Refused(NONE);
            }
            case "shut": {
                int to = cell(a[0]);
                noWall(to);
                Set<Integer> set = new HashSet<>();
                for (int from = 0; from < 36; from++) {
                    if (!world.walls.contains(from) && !rooms(from, 100).contains(to)) {
                        set.add(from);
                    }
                }
                return bits(set);
            }
            default:
                within(a[0], 0, 3);
                ask(NONE, sheets[(int) a[0]] != null && sheets[(int) a[0]].length > 0);
                return fits(sheets[(int) a[0]]);
        }
    }

    private long fits(long[] numbers) {
        Set<Integer> set = new HashSet<>();
        for (int start = 0; start < 12; start++) {
            long at = numbers[0];
            boolean fits = at >= 0 && at < 36 && !world.walls.contains((int) at);
            for (int i = 1; i < numbers.length && fits; i++) {
                at = world.lands((int) at, world.pull(start + i - 1));
                fits = at == numbers[i];
            }
            if (fits) {
                set.add(start);
            }
        }
        return bits(set);
    }

    private long[] the(long sheet, boolean isSheet) {
        within(sheet, 0, 3);
        ask(NONE, sheets[(int) sheet] != null);
        return sheets[(int) sheet];
    }

    private long sheets(String name, long[] a) {
        switch (name) {
            case "sheet": {
                within(a[0], 0, 3);
                ask(BEYOND, a[1] == 0 || a[1] == 8 || a[1] == 16 || a[1] == 32);
                if (a[1] != 0) {
                    ask(STATE, a[2] >= 0);
                    within(a[2], 0, 24);
                }
                bits[(int) a[0]] = (int) a[1];
                sheets[(int) a[0]] = a[1] == 0 ? null : new long[(int) a[2]];
                return 1;
            }
            case "put": {
                long[] sheet = the(a[0], true);
                within(a[1], 0, sheet.length - 1);
                sheet[(int) a[1]] = a[2] & (1L << bits[(int) a[0]]) - 1;
                return 1;
            }
            case "move": {
                within(a[0], 0, 3);
                within(a[2], 0, 3);
                long[] from = the(a[0], true);
                long[] to = the(a[2], true);
                ask(KIND, bits[(int) a[0]] == bits[(int) a[2]]);
                ask(BEYOND, a[4] >= 0 && a[1] >= 0 && a[3] >= 0);
                ask(BEYOND, a[1] + a[4] <= from.length && a[3] + a[4] <= to.length);
                long[] moved = Arrays.copyOfRange(from, (int) a[1], (int) (a[1] + a[4]));
                for (int i = 0; i < moved.length; i++) {
                    to[(int) a[3] + i] = moved[i];
                }
                return a[4];
            }
            case "walls": {
                long[] sheet = the(a[0], true);
                for (int i = 0; i < sheet.length; i++) {
                    if (sheet[i] > 1 || (sheet[i] == 1 && world.in(i) != null)) {
                        return i;
                    }
                    things("wall", new long[] {i, sheet[i]});
                }
                return sheet.length;
            }
            default: {
                long[] sheet = the(a[0], true);
                int right = 0;
                while (right < sheet.length && sheet[right] == world.pull(world.hour + right)) {
                    right++;
                }
                return right;
            }
        }
    }

    private int traced() {
        return Math.min(30, trace.size());
    }

    private long rest(String name, long[] a) {
        switch (name) {
            case "voice": {
                Thing thing = the(a[0]);
                within(a[1], 0, 3);
                trace = new ArrayList<>();
                int x = (int) a[2];
                return a[1] == 0 ? thing.creaks(x, trace) : a[1] == 1 ? thing.rattles(x, trace)
                    : a[1] == 2 ? thing.groans(x, trace) : thing.parts(x, trace);
            }
            case "body":
                ask(NONE, a[0] >= 0 && a[0] < traced());
                return trace.get((int) a[0]);
            case "image":
                kept = world.copy();
                return ++images;
            case "restore":
                ask(NONE, kept != null);
                world = kept.copy();
                return world.hour;
            case "tell":
                ask(FULL, world.waiting.size() < 24);
                world.waiting.add((int) a[0]);
                return world.waiting.size();
            case "check":
                return check();
            case "count":
                within(a[0], 0, 8);
                return new int[] {world.things.size(), world.hour, world.broken(), world.walls.size(),
                    world.pull(world.hour), world.tape.length(), world.waiting.size(), traced(),
                    world.z}[(int) a[0]];
            default:
                within(a[0], 1, 6);
                return told[(int) a[0]];
        }
    }

    private long check() {
        List<Integer> numbers = world.waiting;
        world.waiting = new ArrayList<>();
        for (int i = 0; i < numbers.size(); i++) {
            if (i >= world.things.size() || world.things.get(i).cell != numbers.get(i)) {
                return 1 + i;
            }
        }
        return 0;
    }
}
