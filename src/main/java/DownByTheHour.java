/** A house on a small moon, whose pull leans round by hours; see README.md. */
public final class DownByTheHour {
    private static final int LOW = -1000000000;
    private static final int BEYOND = 1;
    private static final int NONE = 2;
    private static final int STATE = 3;
    private static final int FULL = 4;
    private static final int KIND = 5;
    private static final int PARTED = 6;

    private static final int LAST_HOUR = 9999;
    private static final int LONGEST = 100;
    private static final int LONGEST_BY_DRAWS = 40;
    private static final int LONGEST_FALLS = 60;

    private final House house = new House();
    private final House imageOfHouse = new House();
    private final TextReader reader = new TextReader();
    private final Thought thought = new Thought();
    private final Landings landings = new Landings();
    private final Voices voices = new Voices();
    private final Sheets sheets = new Sheets();
    private final int[] errors = new int[PARTED + 1];
    private int images = 0;

    public DownByTheHour() {
    }

    // ---- walls, things

    public int wall(int cell, int is) {
        if (!Grid.isCell(cell) || is < 0 || is > 1) {
            return error(BEYOND);
        }
        if (is == 1 && house.things.inCell(cell) >= 0) {
            return error(STATE);
        }
        int was = house.wallAt(cell);
        house.setWall(cell, is);
        return was;
    }

    public int cellIs(int cell, int what) {
        if (!Grid.isCell(cell) || what < 0 || what > 1) {
            return error(BEYOND);
        }
        return what == 0 ? house.wallAt(cell) : house.things.inCell(cell);
    }

    public int thing(int km, int cell) {
        if (!Kinds.isKindAndNumber(km) || !Grid.isCell(cell)) {
            return error(BEYOND);
        }
        if (house.things.isFull()) {
            return error(FULL);
        }
        if (house.wallAt(cell) == 1 || house.things.inCell(cell) >= 0) {
            return error(STATE);
        }
        return house.things.add(km, cell);
    }

    public int thingIs(int thing, int what) {
        if (!house.things.has(thing) || what < 0 || what > 4) {
            return error(BEYOND);
        }
        return house.things.ofThing(thing, what);
    }

    public int become(int thing, int km) {
        if (!house.things.has(thing) || !Kinds.isKindAndNumber(km)) {
            return error(BEYOND);
        }
        int was = house.things.kind[thing];
        house.things.setKind(thing, km);
        return was;
    }

    public int as(int thing, int kind) {
        if (!house.things.has(thing) || !Kinds.isKind(kind)) {
            return error(BEYOND);
        }
        if (!Kinds.isUnder(house.things.kind[thing], kind)) {
            return error(KIND);
        }
        return house.things.m[thing];
    }

    public int carry(int thing, int cell) {
        if (!house.things.has(thing) || !Grid.isCell(cell)) {
            return error(BEYOND);
        }
        int there = house.things.inCell(cell);
        if (house.wallAt(cell) == 1 || (there >= 0 && there != thing)) {
            return error(STATE);
        }
        int was = house.things.cell[thing];
        house.things.place(thing, cell);
        return was;
    }

    public int clock(int hour) {
        if (hour < 0 || hour > LAST_HOUR) {
            return error(BEYOND);
        }
        int was = house.hour;
        house.hour = hour;
        return was;
    }

    // ---- texts

    public int feed(long word, int n) {
        if (n < 1 || n > 8) {
            return error(BEYOND);
        }
        if (!house.tapeHasRoom(n)) {
            return error(FULL);
        }
        house.addToTape(word, n);
        return house.tapeLength;
    }

    public int text(int use) {
        if (!isUse(use)) {
            return error(BEYOND);
        }
        reader.read(house.tape, house.tapeLength, use);
        house.tapeLength = 0;
        if (reader.fault >= 0) {
            return -10 - reader.fault;
        }
        house.lawOf(use).learn(reader.steps, reader.stepCount);
        return 1;
    }

    public int untell(int use) {
        if (!isUse(use)) {
            return error(BEYOND);
        }
        int was = house.lawOf(use).isTold() ? 1 : 0;
        house.lawOf(use).forget();
        return was;
    }

    public int law(int use, int a, int b, int c) {
        if (!isUse(use)) {
            return error(BEYOND);
        }
        if (use == House.PULLS) {
            return house.pullBy(a, b, c);
        }
        return house.breaksBy(a, b, c) ? 1 : 0;
    }

    // ---- hours

    public int hours(int n) {
        if (n < 1 || n > LONGEST) {
            return error(BEYOND);
        }
        if (house.hour + n > LAST_HOUR) {
            return error(STATE);
        }
        for (int i = 0; i < n; i++) {
            house.passHour(house.pullAt(house.hour));
        }
        return house.things.brokenCount();
    }

    public int shakes(int n) {
        if (n < 1 || n > LONGEST_BY_DRAWS) {
            return error(BEYOND);
        }
        if (house.hour + n > LAST_HOUR) {
            return error(STATE);
        }
        for (int i = 0; i < n; i++) {
            house.passHour(house.draw() & 3);
        }
        return house.things.brokenCount();
    }

    public int seed(int v) {
        int was = house.z;
        house.z = v;
        return was;
    }

    public int pull(int hour) {
        if (hour < 0 || hour > LAST_HOUR) {
            return error(BEYOND);
        }
        return house.pullAt(hour);
    }

    // ---- what would be

    public int then(int thing, int n) {
        if (!house.things.has(thing) || n < 0 || n > LONGEST) {
            return error(BEYOND);
        }
        thought.foresee(house, house.hour, n);
        return thought.cellBehind(house, thing, n);
    }

    public int when(int thing, int cell) {
        if (!house.things.has(thing) || !Grid.isCell(cell)) {
            return error(BEYOND);
        }
        thought.foresee(house, house.hour, LONGEST);
        int first = thought.hoursUntil(house, thing, cell, LONGEST);
        return first < 0 ? error(NONE) : first;
    }

    public int farthest(int n, int what) {
        if (n < 1 || n > LONGEST_FALLS || what < 0 || what > 2) {
            return error(BEYOND);
        }
        thought.foresee(house, house.hour, n);
        thought.fallFarthest(house, n);
        if (what == 0) {
            return thought.farthest;
        }
        return what == 1 ? thought.farthestThing : thought.farthestHour;
    }

    public int screws(int n, int most, int what) {
        if (n < 1 || n > LONGEST_FALLS || most < 0 || most > 5 || what < 0 || what > 1) {
            return error(BEYOND);
        }
        thought.foresee(house, house.hour, n);
        int count = house.things.count;
        int all = (1 << count) - 1;
        for (int fewest = 0; fewest < count; fewest++) {
            for (int held = 0; held < all; held++) {
                if (Integer.bitCount(held) == fewest && thought.staysWithin(house, n, most, held)) {
                    return what == 0 ? fewest : held;
                }
            }
        }
        return what == 0 ? count : all;
    }

    // ---- ways by walls alone

    public int lands(int cell, int way) {
        if (!Grid.isCell(cell) || !Grid.isWay(way)) {
            return error(BEYOND);
        }
        if (house.wallAt(cell) == 1) {
            return error(STATE);
        }
        return Grid.rest(house.walls, cell, way);
    }

    public long sources(int cell, int way) {
        if (!Grid.isCell(cell) || !Grid.isWay(way)) {
            return error(BEYOND);
        }
        if (house.wallAt(cell) == 1) {
            return error(STATE);
        }
        landings.learn(house.walls);
        return landings.gather(1L << cell, way);
    }

    public long rooms(int from, int n) {
        if (!Grid.isCell(from) || n < 0 || n > LONGEST) {
            return error(BEYOND);
        }
        if (house.wallAt(from) == 1) {
            return error(STATE);
        }
        thought.foresee(house, house.hour, n);
        landings.learn(house.walls);
        long set = 1L << from;
        for (int i = 0; i < n; i++) {
            set |= landings.spread(set, thought.pullOf(i));
        }
        return set;
    }

    public int soonest(int from, int to) {
        if (!Grid.isCell(from) || !Grid.isCell(to)) {
            return error(BEYOND);
        }
        if (house.wallAt(from) == 1 || house.wallAt(to) == 1) {
            return error(STATE);
        }
        thought.foresee(house, house.hour, LONGEST);
        landings.learn(house.walls);
        long set = 1L << from;
        for (int i = 0; i < LONGEST; i++) {
            if (Grid.isIn(set, to)) {
                return i;
            }
            set |= landings.spread(set, thought.pullOf(i));
        }
        return Grid.isIn(set, to) ? LONGEST : error(NONE);
    }

    public long shut(int to) {
        if (!Grid.isCell(to)) {
            return error(BEYOND);
        }
        if (house.wallAt(to) == 1) {
            return error(STATE);
        }
        thought.foresee(house, house.hour, LONGEST);
        landings.learn(house.walls);
        long open = 1L << to;
        for (int i = LONGEST - 1; i >= 0; i--) {
            open |= landings.gather(open, thought.pullOf(i));
        }
        return Grid.ALL & ~house.walls & ~open;
    }

    public int fits(int sheet) {
        if (!Sheets.isSheet(sheet)) {
            return error(BEYOND);
        }
        if (sheets.isMissing(sheet) || sheets.length[sheet] == 0) {
            return error(NONE);
        }
        int first = sheets.numberAt(sheet, 0);
        if (!Grid.isCell(first) || house.wallAt(first) == 1) {
            return 0;
        }
        thought.foresee(house, 0, House.HOURS_OF_DAY + Sheets.LONGEST);
        landings.learn(house.walls);
        int set = 0;
        for (int hour = 0; hour < House.HOURS_OF_DAY; hour++) {
            if (fitsFrom(sheet, hour)) {
                set |= 1 << hour;
            }
        }
        return set;
    }

    // ---- voices, sheets, images, what is told

    public int voice(int thing, int voice, int x) {
        if (!house.things.has(thing) || voice < 0 || voice > 3) {
            return error(BEYOND);
        }
        int answer = voices.speak(house.things.kind[thing], thing, house.things.m[thing], voice, x);
        return voices.parted ? error(PARTED) : answer;
    }

    public int body(int i) {
        if (i < 0 || i >= voices.traced) {
            return error(NONE);
        }
        return voices.bodyInTrace(i);
    }

    public int sheet(int sheet, int bits, int n) {
        if (!Sheets.isSheet(sheet) || !(bits == 0 || Sheets.isWidth(bits))) {
            return error(BEYOND);
        }
        if (bits == 0) {
            sheets.take(sheet);
            return 1;
        }
        if (n < 0) {
            return error(STATE);
        }
        if (n > Sheets.LONGEST) {
            return error(BEYOND);
        }
        sheets.lay(sheet, bits, n);
        return 1;
    }

    public int put(int sheet, int i, int v) {
        if (!Sheets.isSheet(sheet)) {
            return error(BEYOND);
        }
        if (sheets.isMissing(sheet)) {
            return error(NONE);
        }
        if (i < 0 || i >= sheets.length[sheet]) {
            return error(BEYOND);
        }
        sheets.write(sheet, i, v);
        return 1;
    }

    public int move(int sheet, int i, int other, int j, int n) {
        if (!Sheets.isSheet(sheet) || !Sheets.isSheet(other)) {
            return error(BEYOND);
        }
        if (sheets.isMissing(sheet) || sheets.isMissing(other)) {
            return error(NONE);
        }
        if (sheets.bits[sheet] != sheets.bits[other]) {
            return error(KIND);
        }
        if (!sheets.standThere(sheet, i, n) || !sheets.standThere(other, j, n)) {
            return error(BEYOND);
        }
        sheets.copyNumbers(sheet, i, other, j, n);
        return n;
    }

    public int walls(int sheet) {
        if (!Sheets.isSheet(sheet)) {
            return error(BEYOND);
        }
        if (sheets.isMissing(sheet)) {
            return error(NONE);
        }
        int length = sheets.length[sheet];
        for (int cell = 0; cell < length; cell++) {
            int is = sheets.numberAt(sheet, cell);
            boolean isTold = Grid.isCell(cell) && (is == 0 || is == 1);
            if (!isTold || (is == 1 && house.things.inCell(cell) >= 0)) {
                return cell;
            }
            house.setWall(cell, is);
        }
        return length;
    }

    public int judge(int sheet) {
        if (!Sheets.isSheet(sheet)) {
            return error(BEYOND);
        }
        if (sheets.isMissing(sheet)) {
            return error(NONE);
        }
        int length = sheets.length[sheet];
        for (int i = 0; i < length; i++) {
            if (sheets.numberAt(sheet, i) != house.pullAt(house.hour + i)) {
                return i;
            }
        }
        return length;
    }

    public int image() {
        imageOfHouse.takeOver(house);
        images++;
        return images;
    }

    public int restore() {
        if (images == 0) {
            return error(NONE);
        }
        house.takeOver(imageOfHouse);
        return house.hour;
    }

    public int tell(int v) {
        if (house.waits >= House.MOST_WAIT) {
            return error(FULL);
        }
        house.addWaiting(v);
        return house.waits;
    }

    public int check() {
        int wrong = house.firstWaitingWrong();
        house.waits = 0;
        return wrong < 0 ? 0 : 1 + wrong;
    }

    public int count(int what) {
        switch (what) {
            case 0:
                return house.things.count;
            case 1:
                return house.hour;
            case 2:
                return house.things.brokenCount();
            case 3:
                return Long.bitCount(house.walls);
            case 4:
                return house.pullAt(house.hour);
            case 5:
                return house.tapeLength;
            case 6:
                return house.waits;
            case 7:
                return voices.traced;
            case 8:
                return house.z;
            default:
                return error(BEYOND);
        }
    }

    public int told(int k) {
        if (k < BEYOND || k > PARTED) {
            return error(BEYOND);
        }
        return errors[k];
    }

    private int error(int which) {
        if (which >= 0 && which < errors.length) {
            errors[which]++;
        }
        return LOW - which;
    }

    private static boolean isUse(int use) {
        return use == House.PULLS || use == House.BREAKS;
    }

    /** Whether one who starts at an HOUR of the foreseen DAY is in the SHEET's CELLS, one behind the other. */
    private boolean fitsFrom(int sheet, int hour) {
        int at = sheets.numberAt(sheet, 0);
        for (int i = 1; i < sheets.length[sheet]; i++) {
            at = landings.rest(at, thought.pullOf(hour + i - 1));
            if (at != sheets.numberAt(sheet, i)) {
                return false;
            }
        }
        return true;
    }

    /** CELLS and WAYS; sets of CELLS are the bits of a long. */
    private static final class Grid {
        static final int SIDE = 6;
        static final int CELLS = 36;
        static final int WAYS = 4;
        static final long ALL = (1L << CELLS) - 1;

        static boolean isCell(int cell) {
            return cell >= 0 && cell < CELLS;
        }

        static boolean isWay(int way) {
            return way >= 0 && way < WAYS;
        }

        static boolean isIn(long set, int cell) {
            return (set >>> cell & 1L) != 0;
        }

        /** The next CELL that WAY, or -1 if there is none. */
        static int next(int cell, int way) {
            switch (way) {
                case 0:
                    return cell + SIDE < CELLS ? cell + SIDE : -1;
                case 1:
                    return cell % SIDE > 0 ? cell - 1 : -1;
                case 2:
                    return cell >= SIDE ? cell - SIDE : -1;
                case 3:
                    return cell % SIDE < SIDE - 1 ? cell + 1 : -1;
                default:
                    return -1;
            }
        }

        /** The WAY so many quarters behind one. */
        static int turned(int way, int quarters) {
            return way + quarters & 3;
        }

        /** Where one LANDS who is stopped by the CELLS of a set. */
        static int rest(long blocked, int cell, int way) {
            int at = cell;
            for (int i = 1; i < SIDE; i++) {
                int next = next(at, way);
                if (next < 0 || isIn(blocked, next)) {
                    return at;
                }
                at = next;
            }
            return at;
        }
    }

    /** What is so of KINDS alone. */
    private static final class Kinds {
        static final int KINDS = 7;
        static final int ROLLER = 1;
        static final int SCREWED = 2;
        static final int WALKER = 3;
        static final int BALL = 4;
        static final int BOLTED = 5;
        static final int SMOKE = 6;
        private static final int[] ABOVE = {-1, 0, 0, 0, 1, 2, 0};

        static boolean isKind(int kind) {
            return kind >= 0 && kind < KINDS;
        }

        static boolean isKindAndNumber(int km) {
            return km >= 0 && km < 10 * KINDS;
        }

        /** The KIND above one, or -1. */
        static int above(int kind) {
            return isKind(kind) ? ABOVE[kind] : -1;
        }

        /** Whether a KIND is another one, or under it. */
        static boolean isUnder(int kind, int other) {
            int at = kind;
            for (int i = 0; i < KINDS; i++) {
                if (at == other) {
                    return true;
                }
                at = above(at);
            }
            return false;
        }
    }

    /** The THINGS, and how each FALLS. */
    private static final class Things {
        static final int MOST = 6;
        /** More CELLS than one can SLIDE. */
        private static final int FAR = Grid.SIDE;
        final int[] kind = new int[MOST];
        final int[] m = new int[MOST];
        final int[] cell = new int[MOST];
        final int[] broken = new int[MOST];
        final int[] fell = new int[MOST];
        int count = 0;
        /** The CELLS with a THING in them, as a set. */
        private long taken = 0;

        boolean has(int thing) {
            return thing >= 0 && thing < count && thing < MOST;
        }

        boolean isFull() {
            return count >= MOST;
        }

        int inCell(int where) {
            for (int i = 0; i < count && i < MOST; i++) {
                if (cell[i] == where) {
                    return i;
                }
            }
            return -1;
        }

        int add(int km, int where) {
            if (isFull()) {
                return -1;
            }
            int thing = count;
            count++;
            setKind(thing, km);
            cell[thing] = where;
            broken[thing] = 0;
            fell[thing] = 0;
            taken |= 1L << where;
            return thing;
        }

        void setKind(int thing, int km) {
            if (has(thing)) {
                kind[thing] = km / 10;
                m[thing] = km % 10;
            }
        }

        void place(int thing, int where) {
            if (has(thing)) {
                taken = taken & ~(1L << cell[thing]) | 1L << where;
                cell[thing] = where;
            }
        }

        int ofThing(int thing, int what) {
            if (!has(thing)) {
                return 0;
            }
            switch (what) {
                case 0:
                    return kind[thing];
                case 1:
                    return m[thing];
                case 2:
                    return cell[thing];
                case 3:
                    return broken[thing];
                default:
                    return fell[thing];
            }
        }

        int brokenCount() {
            int sum = 0;
            for (int i = 0; i < count && i < MOST; i++) {
                sum += broken[i];
            }
            return sum;
        }

        void takeOver(Things other) {
            count = other.count;
            taken = other.taken;
            for (int i = 0; i < MOST; i++) {
                kind[i] = other.kind[i];
                m[i] = other.m[i];
                cell[i] = other.cell[i];
                broken[i] = other.broken[i];
                fell[i] = other.fell[i];
            }
        }

        /** A THING FALLS, as all lie: how far. */
        int fall(int thing, int pull, long walls) {
            if (!has(thing)) {
                return 0;
            }
            switch (kind[thing]) {
                case Kinds.ROLLER:
                    return roll(thing, pull, walls);
                case Kinds.SCREWED:
                    return pull == m[thing] % 4 ? 0 : slide(thing, pull, FAR, walls);
                case Kinds.WALKER:
                    return walk(thing, pull, walls);
                case Kinds.BALL:
                    return Math.max(roll(thing, pull, walls), roll(thing, pull, walls));
                case Kinds.BOLTED:
                    return m[thing] % 2 == 1 || pull == m[thing] % 4 ? 0 : slide(thing, pull, FAR, walls);
                case Kinds.SMOKE:
                    return slide(thing, Grid.turned(pull, 2), FAR, walls);
                default:
                    return slide(thing, pull, FAR, walls);
            }
        }

        private int roll(int thing, int pull, long walls) {
            int far = slide(thing, pull, FAR, walls);
            slide(thing, Grid.turned(pull, 1), 1, walls);
            return far;
        }

        private int walk(int thing, int pull, long walls) {
            int far = slide(thing, pull, 1, walls);
            if (far == 0) {
                slide(thing, Grid.turned(pull, 1), 1, walls);
            }
            return far;
        }

        private int slide(int thing, int way, int most, long walls) {
            if (!has(thing)) {
                return 0;
            }
            long blocked = walls | taken;
            int from = cell[thing];
            int at = from;
            int by = 0;
            for (int i = 0; i < most; i++) {
                int next = Grid.next(at, way);
                if (next < 0 || Grid.isIn(blocked, next)) {
                    break;
                }
                at = next;
                by++;
            }
            taken = taken & ~(1L << from) | 1L << at;
            cell[thing] = at;
            return by;
        }
    }

    /** A TEXT as steps for a stack: numbers, names from NAME on, signs from SIGN on. */
    private static final class Law {
        static final int MOST_STEPS = 60;
        static final int NAME = 10000;
        static final int SIGN = 20000;
        private final int[] steps = new int[MOST_STEPS];
        private final int[] stack = new int[MOST_STEPS];
        private int stepCount = 0;

        boolean isTold() {
            return stepCount > 0;
        }

        void forget() {
            stepCount = 0;
        }

        void learn(int[] from, int n) {
            stepCount = Math.min(n, Math.min(from.length, MOST_STEPS));
            for (int i = 0; i < stepCount; i++) {
                steps[i] = from[i];
            }
        }

        void takeOver(Law other) {
            learn(other.steps, other.stepCount);
        }

        /** What it gives with its NAMES in order as a, b, c. */
        int work(int a, int b, int c) {
            int top = 0;
            for (int i = 0; i < stepCount && i < MOST_STEPS; i++) {
                int step = steps[i];
                if (step < SIGN) {
                    if (top < MOST_STEPS) {
                        stack[top] = step < NAME ? step : named(step - NAME, a, b, c);
                        top++;
                    }
                } else if (step == SIGN + '!') {
                    if (top >= 1 && top <= MOST_STEPS) {
                        stack[top - 1] = stack[top - 1] == 0 ? 1 : 0;
                    }
                } else if (top >= 2 && top <= MOST_STEPS) {
                    top--;
                    stack[top - 1] = joined(step - SIGN, stack[top - 1], stack[top]);
                }
            }
            return stack[0];
        }

        private static int named(int name, int a, int b, int c) {
            if (name == 0) {
                return a;
            }
            return name == 1 ? b : c;
        }

        private static int joined(int sign, int left, int right) {
            switch (sign) {
                case '|':
                    return left != 0 || right != 0 ? 1 : 0;
                case '&':
                    return left != 0 && right != 0 ? 1 : 0;
                case '<':
                    return left < right ? 1 : 0;
                case '=':
                    return left == right ? 1 : 0;
                case '>':
                    return left > right ? 1 : 0;
                case '+':
                    return left + right;
                case '-':
                    return left - right;
                case '*':
                    return left * right;
                case '/':
                    return right == 0 ? 0 : left / right;
                case '%':
                    return right == 0 ? 0 : left % right;
                default:
                    return 0;
            }
        }
    }

    /** Reads a TEXT into steps, or finds its FAULT. */
    private static final class TextReader {
        private static final int MOST_OPEN = 5;
        private static final int RANK_OF_COMPARING = 2;
        private static final int LAST_RANK = 4;
        final int[] steps = new int[Law.MOST_STEPS];
        int stepCount = 0;
        /** The place of the FAULT, or -1. */
        int fault = -1;
        private final byte[] bytes = new byte[House.MOST_TAPE];
        private int length = 0;
        private int at = 0;
        private int use = 0;

        void read(byte[] tape, int tapeLength, int ofUse) {
            length = Math.min(tapeLength, Math.min(tape.length, bytes.length));
            for (int i = 0; i < length; i++) {
                bytes[i] = tape[i];
            }
            use = ofUse;
            at = 0;
            stepCount = 0;
            fault = -1;
            readRank(0, 0);
            if (at < length) {
                refuse();
            }
        }

        /** The byte at a place ahead of the rest, or -1 at the end. */
        private int sign() {
            return at >= 0 && at < length && at < bytes.length ? bytes[at] & 255 : -1;
        }

        /** Only the first FAULT counts. */
        private void refuse() {
            if (fault < 0) {
                fault = at;
            }
        }

        private void emit(int step) {
            if (stepCount < steps.length) {
                steps[stepCount] = step;
                stepCount++;
            }
        }

        /** Ranks are T 0, A 1, B 2, S 3, P 4; in a B there is one sign at most. */
        private void readRank(int rank, int open) {
            readPart(rank, open);
            int most = rank == RANK_OF_COMPARING ? 1 : bytes.length;
            for (int i = 0; i < most && fault < 0 && rankOf(sign()) == rank; i++) {
                int joining = sign();
                at++;
                readPart(rank, open);
                emit(Law.SIGN + joining);
            }
        }

        private void readPart(int rank, int open) {
            if (rank >= 0 && rank < LAST_RANK) {
                readRank(rank + 1, open);
            } else {
                readFactor(open);
            }
        }

        private static int rankOf(int sign) {
            switch (sign) {
                case '|':
                    return 0;
                case '&':
                    return 1;
                case '<':
                case '=':
                case '>':
                    return RANK_OF_COMPARING;
                case '+':
                case '-':
                    return 3;
                case '*':
                case '/':
                case '%':
                    return LAST_RANK;
                default:
                    return -1;
            }
        }

        private void readFactor(int open) {
            int sign = sign();
            if (isDigit(sign)) {
                readNumber();
            } else if (nameOf(sign) >= 0) {
                emit(Law.NAME + nameOf(sign));
                at++;
            } else if (sign == '!' && open < MOST_OPEN) {
                at++;
                readPart(LAST_RANK, open + 1);
                emit(Law.SIGN + '!');
            } else if (sign == '(' && open < MOST_OPEN) {
                at++;
                readRank(0, open + 1);
                readClosing();
            } else {
                refuse();
            }
        }

        private void readClosing() {
            if (fault < 0 && sign() == ')') {
                at++;
            } else {
                refuse();
            }
        }

        private void readNumber() {
            int value = 0;
            for (int i = 0; i < 4 && isDigit(sign()); i++) {
                value = value * 10 + sign() - '0';
                at++;
            }
            emit(value);
        }

        private static boolean isDigit(int sign) {
            return sign >= '0' && sign <= '9';
        }

        /** Which of the NAMES of its USE a byte is, or -1. */
        private int nameOf(int sign) {
            switch (sign) {
                case 'h':
                    return use == House.PULLS ? 0 : -1;
                case 'd':
                    return use == House.PULLS ? 1 : -1;
                case 'n':
                    return use == House.PULLS ? 2 : -1;
                case 'f':
                    return use == House.BREAKS ? 0 : -1;
                case 'm':
                    return use == House.BREAKS ? 1 : -1;
                case 'k':
                    return use == House.BREAKS ? 2 : -1;
                default:
                    return -1;
            }
        }
    }

    /** All that an IMAGE keeps. */
    private static final class House {
        static final int PULLS = 0;
        static final int BREAKS = 1;
        static final int MOST_TAPE = 60;
        static final int MOST_WAIT = 24;
        static final int HOURS_OF_DAY = 12;
        final Things things = new Things();
        final byte[] tape = new byte[MOST_TAPE];
        long walls = 0;
        int hour = 0;
        int z = 1;
        int tapeLength = 0;
        int waits = 0;
        private final Law pullLaw = new Law();
        private final Law breakLaw = new Law();
        private final int[] waiting = new int[MOST_WAIT];

        int wallAt(int cell) {
            return Grid.isIn(walls, cell) ? 1 : 0;
        }

        void setWall(int cell, int is) {
            if (is == 1) {
                walls |= 1L << cell;
            } else {
                walls &= ~(1L << cell);
            }
        }

        Law lawOf(int use) {
            return use == PULLS ? pullLaw : breakLaw;
        }

        int pullAt(int anHour) {
            return pullBy(anHour, anHour / HOURS_OF_DAY, things.count);
        }

        int pullBy(int h, int d, int n) {
            int given = pullLaw.isTold() ? pullLaw.work(h, d, n) : h / 3;
            return Math.floorMod(given, Grid.WAYS);
        }

        boolean breaksBy(int f, int m, int k) {
            return breakLaw.isTold() ? breakLaw.work(f, m, k) != 0 : f > 3;
        }

        int draw() {
            z = z * 1103515245 + 12345;
            return z >>> 8;
        }

        void passHour(int pull) {
            for (int i = 0; i < things.count && i < Things.MOST; i++) {
                things.fell[i] = things.fall(i, pull, walls);
                if (breaksBy(things.fell[i], things.m[i], things.kind[i])) {
                    things.broken[i] = 1;
                }
            }
            hour++;
        }

        boolean tapeHasRoom(int n) {
            return tapeLength + n <= MOST_TAPE;
        }

        void addToTape(long word, int n) {
            for (int i = 0; i < n && tapeLength < MOST_TAPE; i++) {
                tape[tapeLength] = (byte) (word >>> 8 * i);
                tapeLength++;
            }
        }

        void addWaiting(int v) {
            if (waits < MOST_WAIT) {
                waiting[waits] = v;
                waits++;
            }
        }

        /** The place of the first number that waits and isn't the CELL of its THING, or -1. */
        int firstWaitingWrong() {
            for (int i = 0; i < waits && i < MOST_WAIT; i++) {
                if (!things.has(i) || things.cell[i] != waiting[i]) {
                    return i;
                }
            }
            return -1;
        }

        void takeOver(House other) {
            things.takeOver(other.things);
            walls = other.walls;
            hour = other.hour;
            z = other.z;
            pullLaw.takeOver(other.pullLaw);
            breakLaw.takeOver(other.breakLaw);
            tapeLength = other.tapeLength;
            for (int i = 0; i < MOST_TAPE; i++) {
                tape[i] = other.tape[i];
            }
            waits = other.waits;
            for (int i = 0; i < MOST_WAIT; i++) {
                waiting[i] = other.waiting[i];
            }
        }
    }

    /** HOURS that are only thought: what BREAKS is of no matter to them, as it FALLS likewise. */
    private static final class Thought {
        private final Things things = new Things();
        private final int[] pulls = new int[LONGEST];
        int farthest = 0;
        int farthestThing = -1;
        int farthestHour = 0;

        /** Works out the PULLS once, for all that is thought from an HOUR on. */
        void foresee(House house, int hour, int n) {
            for (int i = 0; i < n && i < LONGEST; i++) {
                pulls[i] = house.pullAt(hour + i);
            }
        }

        int pullOf(int i) {
            return i >= 0 && i < LONGEST ? pulls[i] : 0;
        }

        int cellBehind(House house, int thing, int n) {
            things.takeOver(house.things);
            for (int i = 0; i < n; i++) {
                passHour(house, i, 0);
            }
            return things.has(thing) ? things.cell[thing] : -1;
        }

        /** Behind how many HOURS a THING is in a CELL first, or -1. */
        int hoursUntil(House house, int thing, int cell, int n) {
            things.takeOver(house.things);
            for (int i = 0; i < n; i++) {
                if (things.inCell(cell) == thing) {
                    return i;
                }
                passHour(house, i, 0);
            }
            return things.inCell(cell) == thing ? n : -1;
        }

        void fallFarthest(House house, int n) {
            things.takeOver(house.things);
            farthest = 0;
            farthestThing = -1;
            farthestHour = 0;
            for (int i = 0; i < n; i++) {
                passHour(house, i, 0);
                noteFarthest(i + 1);
            }
        }

        /** Whether nothing FELL by more than most at once, a set of THINGS being HELD. */
        boolean staysWithin(House house, int n, int most, int held) {
            things.takeOver(house.things);
            for (int i = 0; i < n; i++) {
                if (passHour(house, i, held) > most) {
                    return false;
                }
            }
            return true;
        }

        private void noteFarthest(int hour) {
            for (int i = 0; i < things.count && i < Things.MOST; i++) {
                if (things.fell[i] > farthest) {
                    farthest = things.fell[i];
                    farthestThing = i;
                    farthestHour = hour;
                }
            }
        }

        /** How far anything FELL at most by this HOUR. */
        private int passHour(House house, int i, int held) {
            int far = 0;
            for (int thing = 0; thing < things.count && thing < Things.MOST; thing++) {
                boolean isHeld = (held >> thing & 1) != 0;
                things.fell[thing] = isHeld ? 0 : things.fall(thing, pullOf(i), house.walls);
                far = Math.max(far, things.fell[thing]);
            }
            return far;
        }
    }

    /** Where one LANDS from each CELL by each WAY. */
    private static final class Landings {
        private final int[] rests = new int[Grid.WAYS * Grid.CELLS];
        private long walls = 0;

        void learn(long ofWalls) {
            walls = ofWalls;
            for (int i = 0; i < rests.length; i++) {
                rests[i] = Grid.rest(walls, i % Grid.CELLS, i / Grid.CELLS);
            }
        }

        int rest(int cell, int way) {
            int i = way * Grid.CELLS + cell;
            return i >= 0 && i < rests.length ? rests[i] : cell;
        }

        /** The CELLS in which one LANDS from those of a set. */
        long spread(long set, int way) {
            long all = 0;
            for (int cell = 0; cell < Grid.CELLS; cell++) {
                if (Grid.isIn(set, cell)) {
                    all |= 1L << rest(cell, way);
                }
            }
            return all;
        }

        /** The CELLS (no WALLS) from which one LANDS in those of a set. */
        long gather(long set, int way) {
            long all = 0;
            for (int cell = 0; cell < Grid.CELLS; cell++) {
                if (!Grid.isIn(walls, cell) && Grid.isIn(set, rest(cell, way))) {
                    all |= 1L << cell;
                }
            }
            return all;
        }
    }

    /** VOICES: which BODY answers by KIND, and THE TRACE of those that began. */
    private static final class Voices {
        static final int CREAKS = 0;
        static final int RATTLES = 1;
        static final int GROANS = 2;
        static final int PARTS = 3;
        private static final int MOST_TRACED = 30;
        private static final int DEEPEST = 12;
        /** By KINDS, four VOICES each; 0 where a KIND has no BODY of its own. */
        private static final int[] BODIES = {
            10, 11, 12, 13,
            20, 0, 0, 21,
            0, 30, 0, 0,
            0, 0, 40, 0,
            50, 0, 51, 0,
            0, 60, 0, 0,
            70, 71, 0, 0,
        };
        boolean parted = false;
        int traced = 0;
        private final int[] trace = new int[MOST_TRACED];
        private int kind = 0;
        private int number = 0;
        private int m = 0;

        /** What a VOICE answers, unless it parted; THE TRACE is its own in any case. */
        int speak(int ofKind, int ofNumber, int ofM, int voice, int x) {
            kind = ofKind;
            number = ofNumber;
            m = ofM;
            parted = false;
            traced = 0;
            return sound(kind, voice, x, 0);
        }

        int bodyInTrace(int i) {
            return i >= 0 && i < traced && i < MOST_TRACED ? trace[i] : 0;
        }

        /** Behind what parted no BODY begins any more, as PARTED is all that is answered. */
        private int sound(int from, int voice, int x, int depth) {
            if (parted || depth > DEEPEST) {
                return 0;
            }
            int at = from;
            for (int i = 0; i < Kinds.KINDS && bodyOf(at, voice) == 0; i++) {
                at = Kinds.above(at);
            }
            begin(bodyOf(at, voice));
            return run(bodyOf(at, voice), at, x, depth + 1);
        }

        private static int bodyOf(int ofKind, int voice) {
            int i = 4 * ofKind + voice;
            return i >= 0 && i < BODIES.length ? BODIES[i] : 0;
        }

        private void begin(int body) {
            if (traced < MOST_TRACED) {
                trace[traced] = body;
                traced++;
            }
        }

        private int run(int body, int at, int x, int depth) {
            int above = Kinds.above(at);
            switch (body) {
                case 10:
                    return x + number;
                case 11:
                    return sound(kind, CREAKS, x, depth) * 2;
                case 12:
                    return sound(kind, RATTLES, x, depth) - m;
                case 13:
                    return partsOf(x);
                case 20:
                    return sound(above, CREAKS, x, depth) - 4;
                case 21:
                    return sound(above, PARTS, x, depth) + sound(kind, RATTLES, 1, depth);
                case 30:
                    return 0 - sound(above, RATTLES, x, depth);
                case 40:
                    return sound(above, GROANS, x / 2, depth);
                case 50:
                    return sound(above, CREAKS, x, depth) * 3;
                case 51:
                    return sound(above, GROANS, x, depth) ^ number;
                case 60:
                    return sound(above, RATTLES, x + 1, depth);
                case 70:
                    return 9;
                case 71:
                    return sound(above, RATTLES, x, depth) + m;
                default:
                    return 0;
            }
        }

        private int partsOf(int x) {
            int by = m - number;
            if (by == 0) {
                parted = true;
                return 0;
            }
            return x / by;
        }
    }

    /** SHEETS as rows of one array; what has 0 bits is missing. */
    private static final class Sheets {
        static final int LONGEST = 24;
        private static final int SHEETS = 4;
        final int[] bits = new int[SHEETS];
        final int[] length = new int[SHEETS];
        private final int[] numbers = new int[SHEETS * LONGEST];

        static boolean isSheet(int sheet) {
            return sheet >= 0 && sheet < SHEETS;
        }

        static boolean isWidth(int ofBits) {
            return ofBits == 8 || ofBits == 16 || ofBits == 32;
        }

        boolean isMissing(int sheet) {
            return !isSheet(sheet) || bits[sheet] == 0;
        }

        void take(int sheet) {
            if (isSheet(sheet)) {
                bits[sheet] = 0;
                length[sheet] = 0;
            }
        }

        void lay(int sheet, int ofBits, int n) {
            if (isSheet(sheet) && n >= 0 && n <= LONGEST) {
                bits[sheet] = ofBits;
                length[sheet] = n;
                for (int i = 0; i < LONGEST; i++) {
                    numbers[sheet * LONGEST + i] = 0;
                }
            }
        }

        private boolean hasNumber(int sheet, int i) {
            return isSheet(sheet) && i >= 0 && i < length[sheet] && i < LONGEST;
        }

        int numberAt(int sheet, int i) {
            return hasNumber(sheet, i) ? numbers[sheet * LONGEST + i] : -1;
        }

        void write(int sheet, int i, int v) {
            if (hasNumber(sheet, i)) {
                numbers[sheet * LONGEST + i] = lowest(bits[sheet], v);
            }
        }

        private static int lowest(int ofBits, int v) {
            if (ofBits == 8) {
                return (byte) v;
            }
            return ofBits == 16 ? (short) v : v;
        }

        boolean standThere(int sheet, int i, int n) {
            return isSheet(sheet) && n >= 0 && i >= 0 && n <= length[sheet] && i <= length[sheet] - n;
        }

        void copyNumbers(int sheet, int i, int other, int j, int n) {
            if (standThere(sheet, i, n) && standThere(other, j, n)) {
                System.arraycopy(numbers, sheet * LONGEST + i, numbers, other * LONGEST + j, n);
            }
        }
    }
}
