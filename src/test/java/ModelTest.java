import java.util.Arrays;
import java.util.Random;

/** Random runs of 512 calls: the class and the Model answer alike. */
public final class ModelTest {
    private static final Due d = new Due("ModelTest");
    private static final int RUNS = 400;
    private static final String[] NAMES = {
        "wall", "cellIs", "thing", "thingIs", "become", "as", "carry", "clock", "feed", "text", "untell", "law",
        "hours", "shakes", "seed", "pull", "then", "when", "farthest", "screws", "lands", "sources", "rooms",
        "soonest", "shut", "fits", "voice", "body", "sheet", "put", "move", "walls", "judge", "image", "restore",
        "tell", "check", "count", "told",
    };
    private static final int[] EDGES = {
        Integer.MIN_VALUE, Integer.MIN_VALUE + 1, Integer.MAX_VALUE, Integer.MAX_VALUE - 1, -1, -2, 0, 1, 4, 5, 6, 7,
        8, 9, 24, 25, 35, 36, 37, 40, 41, 59, 60, 61, 64, 69, 70, 99, 100, 101, 255, 256, 9999, 10000, 65536,
    };

    private final Random random;
    private final DownByTheHour real = new DownByTheHour();
    private final Model model = new Model();
    private final int run;
    private int calls = 0;

    private ModelTest(int run) {
        this.run = run;
        this.random = new Random(run);
    }

    public static void main(String[] args) {
        int runs = args.length > 0 ? Integer.parseInt(args[0]) : RUNS;
        int from = args.length > 1 ? Integer.parseInt(args[1]) : 0;
        for (int run = from; run < from + runs; run++) {
            new ModelTest(run).play();
        }
        d.end();
    }

    private void play() {
        int house = random.nextInt(8);
        for (int i = 0; i < house; i++) {
            call("wall", cell(), 1);
        }
        int things = random.nextInt(7);
        for (int i = 0; i < things; i++) {
            call("thing", random.nextInt(70), cell());
        }
        while (calls < 512) {
            int dice = random.nextInt(20);
            if (dice == 0) {
                tellText();
            } else if (dice == 1) {
                tellSheet();
            } else if (dice == 2) {
                tellCells();
            } else {
                any();
            }
        }
    }

    private int one(int... of) {
        return of[random.nextInt(of.length)];
    }

    private int cell() {
        return random.nextInt(36);
    }

    private int number() {
        int dice = random.nextInt(3);
        return dice == 0 ? one(EDGES) : dice == 1 ? random.nextInt() : random.nextInt(21) - 10;
    }

    private void any() {
        String name = NAMES[random.nextInt(NAMES.length)];
        long[] a = likely(name);
        if (a.length > 0 && random.nextInt(12) == 0) {
            a[random.nextInt(a.length)] = one(EDGES);
        }
        call(name, a);
    }

    private long[] likely(String name) {
        int thing = random.nextInt(6);
        int sheet = random.nextInt(4);
        switch (name) {
            case "wall": return new long[] {cell(), one(0, 0, 1)};
            case "cellIs": return new long[] {cell(), one(0, 1)};
            case "thing": return new long[] {random.nextInt(70), cell()};
            case "thingIs": return new long[] {thing, random.nextInt(5)};
            case "become": return new long[] {thing, random.nextInt(70)};
            case "as": return new long[] {thing, random.nextInt(7)};
            case "carry": return new long[] {thing, cell()};
            case "clock": return new long[] {one(0, 1, 5, 100, 9899, 9940, 9959, 9990, 9999, random.nextInt(10000))};
            case "feed": return new long[] {random.nextLong(), 1 + random.nextInt(8)};
            case "text": return new long[] {one(0, 1)};
            case "untell": return new long[] {one(0, 1)};
            case "law": return new long[] {one(0, 1), number(), number(), number()};
            case "hours": return new long[] {one(1, 1, 2, 3, 12, 100)};
            case "shakes": return new long[] {one(1, 1, 2, 3, 12, 40)};
            case "seed": return new long[] {number()};
            case "pull": return new long[] {random.nextInt(10000)};
            case "then": return new long[] {thing, random.nextInt(101)};
            case "when": return new long[] {thing, cell()};
            case "farthest": return new long[] {1 + random.nextInt(60), random.nextInt(3)};
            case "screws": return new long[] {one(1, 2, 3, 6, 60), random.nextInt(6), one(0, 1)};
            case "lands": return new long[] {cell(), random.nextInt(4)};
            case "sources": return new long[] {cell(), random.nextInt(4)};
            case "rooms": return new long[] {cell(), one(0, 1, 5, 50, 100)};
            case "soonest": return new long[] {cell(), cell()};
            case "shut": return new long[] {cell()};
            case "fits": return new long[] {sheet};
            case "voice": return new long[] {thing, random.nextInt(4), number()};
            case "body": return new long[] {random.nextInt(8)};
            case "sheet": return new long[] {sheet, one(0, 8, 16, 32, 32), random.nextInt(26) - 1};
            case "put": return new long[] {sheet, random.nextInt(24), number()};
            case "move": return new long[] {sheet, random.nextInt(6), random.nextInt(4), random.nextInt(6),
                random.nextInt(12)};
            case "walls": return new long[] {sheet};
            case "judge": return new long[] {sheet};
            case "tell": return new long[] {number()};
            case "count": return new long[] {random.nextInt(9)};
            case "told": return new long[] {1 + random.nextInt(6)};
            default: return new long[0];
        }
    }

    /** A text, most often a right one, comes to an empty tape and is read. */
    private void tellText() {
        int use = one(0, 1);
        StringBuilder text = new StringBuilder();
        do {
            text.setLength(0);
            part(text, 0, 0, use == 0 ? "hdn" : "fmk");
        } while (text.length() > 60);
        if (random.nextInt(3) == 0) {
            String signs = "hdnfmk0123456789!()|&<=>+-*/%! (x\u00e9";
            char sign = signs.charAt(random.nextInt(signs.length()));
            int at = random.nextInt(text.length());
            if (random.nextBoolean() && text.length() < 60) {
                text.insert(at, sign);
            } else {
                text.setCharAt(at, sign);
            }
        } else if (random.nextInt(8) == 0) {
            text.setLength(random.nextInt(text.length()));
        }
        call("text", one(0, 1));
        for (int i = 0; i < text.length(); i += 8) {
            int n = Math.min(8, text.length() - i);
            long word = random.nextLong();
            for (int j = n - 1; j >= 0; j--) {
                word = word << 8 | text.charAt(i + j) & 255;
            }
            call("feed", word, n);
        }
        call("text", use);
    }

    private void part(StringBuilder text, int rank, int open, String names) {
        if (rank == 5) {
            int dice = random.nextInt(10);
            if (open < 5 && dice < 2) {
                text.append('!');
                part(text, 5, open + 1, names);
            } else if (open < 5 && dice < 4) {
                text.append('(');
                part(text, 0, open + 1, names);
                text.append(')');
            } else if (dice < 6) {
                text.append(one(0, 1, 2, 3, 4, 7, 10, 99, 999, 9999));
            } else {
                text.append(names.charAt(random.nextInt(names.length())));
            }
            return;
        }
        String signs = new String[] {"|", "&", "<=>", "+-", "*/%"}[rank];
        part(text, rank + 1, open, names);
        for (int i = 0; i < (rank == 2 ? 1 : 3) && random.nextInt(5) == 0; i++) {
            text.append(signs.charAt(random.nextInt(signs.length())));
            part(text, rank + 1, open, names);
        }
    }

    /** A SHEET that is right for a while: of a way by walls, of pulls, or of walls. */
    private void tellSheet() {
        int sheet = random.nextInt(4);
        int n = random.nextInt(12);
        int hour = random.nextInt(12);
        int what = random.nextInt(3);
        long at = cell();
        call("sheet", sheet, one(8, 16, 32), n);
        for (int i = 0; i < n; i++) {
            long v;
            if (what == 0) {
                v = at;
                at = Math.max(0, call("lands", at, Math.max(0, call("pull", hour + i))));
            } else if (what == 1) {
                v = Math.max(0, call("pull", Math.min(9999, call("count", 1) + i)));
            } else {
                v = one(0, 0, 0, 1);
            }
            call("put", sheet, i, random.nextInt(12) == 0 ? number() : v);
        }
        call(new String[] {"fits", "judge", "walls"}[what], sheet);
    }

    private void tellCells() {
        call("check");
        long n = call("count", 0);
        for (int i = 0; i < n; i++) {
            call("tell", call("thingIs", i, 2));
        }
        if (random.nextInt(3) == 0) {
            call("tell", cell());
        }
        call("check");
    }

    private long call(String name, long... a) {
        if (calls >= 512) {
            return 0;
        }
        calls++;
        long want = model.call(name, a);
        long got = real(name, a);
        d.due("run " + run + " call " + calls + " " + name + Arrays.toString(a), got, want);
        return got;
    }

    private long real(String name, long[] a) {
        int[] i = new int[5];
        for (int j = 0; j < a.length; j++) {
            i[j] = (int) a[j];
        }
        switch (name) {
            case "wall": return real.wall(i[0], i[1]);
            case "cellIs": return real.cellIs(i[0], i[1]);
            case "thing": return real.thing(i[0], i[1]);
            case "thingIs": return real.thingIs(i[0], i[1]);
            case "become": return real.become(i[0], i[1]);
            case "as": return real.as(i[0], i[1]);
            case "carry": return real.carry(i[0], i[1]);
            case "clock": return real.clock(i[0]);
            case "feed": return real.feed(a[0], i[1]);
            case "text": return real.text(i[0]);
            case "untell": return real.untell(i[0]);
            case "law": return real.law(i[0], i[1], i[2], i[3]);
            case "hours": return real.hours(i[0]);
            case "shakes": return real.shakes(i[0]);
            case "seed": return real.seed(i[0]);
            case "pull": return real.pull(i[0]);
            case "then": return real.then(i[0], i[1]);
            case "when": return real.when(i[0], i[1]);
            case "farthest": return real.farthest(i[0], i[1]);
            case "screws": return real.screws(i[0], i[1], i[2]);
            case "lands": return real.lands(i[0], i[1]);
            case "sources": return real.sources(i[0], i[1]);
            case "rooms": return real.rooms(i[0], i[1]);
            case "soonest": return real.soonest(i[0], i[1]);
            case "shut": return real.shut(i[0]);
            case "fits": return real.fits(i[0]);
            case "voice": return real.voice(i[0], i[1], i[2]);
            case "body": return real.body(i[0]);
            case "sheet": return real.sheet(i[0], i[1], i[2]);
            case "put": return real.put(i[0], i[1], i[2]);
            case "move": return real.move(i[0], i[1], i[2], i[3], i[4]);
            case "walls": return real.walls(i[0]);
            case "judge": return real.judge(i[0]);
            case "image": return real.image();
            case "restore": return real.restore();
            case "tell": return real.tell(i[0]);
            case "check": return real.check();
            case "count": return real.count(i[0]);
            default: return real.told(i[0]);
        }
    }
}
