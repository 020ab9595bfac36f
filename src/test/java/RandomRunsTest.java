import java.util.Random;

/** Random runs of at most 512 calls, each answer compared with the Oracle's; the seeds are fixed. */
public final class RandomRunsTest {
    private static final int[] EDGES = {Integer.MIN_VALUE, -256, -2, -1, 256, 257, 1 << 16, Integer.MAX_VALUE};

    private final Random random;
    private final ColourLessen mine;
    private final Oracle due;
    /** Few levels make many equal colours and many ties; many levels make many different colours. */
    private final int levels;
    private String call = "";

    private RandomRunsTest(long seed) {
        random = new Random(seed);
        int width = size();
        int height = size();
        mine = new ColourLessen(width, height);
        due = new Oracle(width, height);
        int[] choices = {2, 3, 5, 17, 256};
        levels = choices[random.nextInt(choices.length)];
    }

    private int size() {
        return random.nextInt(4) == 0 ? random.nextInt(30) - 3 : 1 + random.nextInt(8);
    }

    /** Below the bound as a rule; now and then an edge. */
    private int number(int bound) {
        return random.nextInt(60) == 0 ? EDGES[random.nextInt(EDGES.length)]
                : random.nextInt(60) == 0 ? bound : random.nextInt(bound);
    }

    private int level() {
        int level = random.nextInt(levels) * (255 / (levels - 1));
        return random.nextInt(150) == 0 ? EDGES[random.nextInt(EDGES.length)] : level;
    }

    private boolean same(String text, Check.Call got, Check.Call want) {
        call = text;
        String g = Check.answerOf(got);
        String w = Check.answerOf(want);
        if (!g.equals(w)) {
            System.out.println(text + " answered " + g + ", due is " + w);
        }
        return g.equals(w);
    }

    private static String text(String name, int... args) {
        StringBuilder s = new StringBuilder(name).append('(');
        for (int i = 0; i < args.length; i++) {
            s.append(i == 0 ? "" : ", ").append(args[i]);
        }
        return s.append(')').toString();
    }

    private boolean change() {
        int x = number(due.width);
        int y = number(due.height);
        int kind = random.nextInt(20);
        if (kind < 9) {
            int r = level(), g = level(), b = level(), a = level();
            return same(text("put", x, y, r, g, b, a), () -> mine.put(x, y, r, g, b, a) ? 1 : 0,
                    () -> due.put(x, y, r, g, b, a));
        }
        if (kind < 13) {
            int many = number(random.nextBoolean() ? 6 : 600);
            int tint = random.nextInt();
            int step = random.nextInt(3) == 0 ? random.nextInt() : random.nextInt(80) - 40;
            return same(text("paint", x, y, many, tint, step), () -> mine.paint(x, y, many, tint, step),
                    () -> due.paint(x, y, many, tint, step));
        }
        if (kind < 19 || random.nextInt(8) != 0) {
            int k = number(random.nextBoolean() ? 4 : 64);
            int r = random.nextInt(5) == 0 ? -1 : level();
            int g = level(), b = level(), a = level();
            return same(text("given", k, r, g, b, a), () -> mine.given(k, r, g, b, a),
                    () -> due.given(k, r, g, b, a));
        }
        mine.clear();
        due.clear();
        return true;
    }

    private boolean make() {
        int way = number(3);
        int colours = random.nextInt(3) == 0 ? number(65) : 1 + number(9);
        int rounds = random.nextBoolean() ? number(3) : number(21);
        return same(text("run", way, colours, rounds), () -> mine.run(way, colours, rounds),
                () -> due.run(way, colours, rounds));
    }

    private boolean ask() {
        int x = number(due.width);
        int y = number(due.height);
        int k = number(random.nextBoolean() ? 4 : 64);
        switch (random.nextInt(9)) {
            case 0:
                return same(text("at", x, y), () -> mine.at(x, y), () -> due.at(x, y));
            case 1:
                int channel = number(4);
                return same(text("colour", k, channel), () -> mine.colour(k, channel), () -> due.colour(k, channel));
            case 2:
                return same(text("index", x, y), () -> mine.index(x, y), () -> due.index(x, y));
            case 3:
                int r = level(), g = level(), b = level(), a = level();
                return same(text("nearest", r, g, b, a), () -> mine.nearest(r, g, b, a),
                        () -> due.nearest(r, g, b, a));
            case 4:
                int round = number(random.nextBoolean() ? 3 : 22);
                return same(text("sum", round), () -> mine.sum(round), () -> due.sum(round));
            case 5:
                int kind = number(3);
                return same(text("dither", kind), () -> mine.dither(kind), () -> due.dither(kind));
            case 6:
                return same(text("count", k), () -> mine.count(k), () -> due.count(k));
            case 7:
                return same("exact()", () -> mine.exact() ? 1 : 0, () -> due.exact());
            default:
                int what = number(5);
                return same(text("told", what), () -> mine.told(what), () -> due.told(what));
        }
    }

    /** The whole state, with the calls that only tell: for small pictures this stays below 512 calls. */
    private boolean sameState() {
        boolean same = same("told(3)", () -> mine.told(3), () -> due.told(3));
        for (int i = 0; i < due.width * due.height; i++) {
            int x = i % due.width;
            int y = i / due.width;
            same &= same(text("index", x, y), () -> mine.index(x, y), () -> due.index(x, y));
        }
        for (int i = 0; i < 4 * (int) due.told(3); i++) {
            int k = i / 4;
            int channel = i % 4;
            same &= same(text("colour", k, channel), () -> mine.colour(k, channel), () -> due.colour(k, channel));
        }
        return same;
    }

    /** Some pictures begin with much in them, so that few runs meet only black. */
    private boolean fill() {
        boolean same = true;
        for (int i = 0; i < Math.min(150, due.width * due.height); i++) {
            int x = i % due.width;
            int y = i / due.width;
            int r = random.nextInt(levels) * (255 / (levels - 1));
            int g = random.nextInt(levels) * (255 / (levels - 1));
            same &= same(text("put", x, y, r, g, 0, 9), () -> mine.put(x, y, r, g, 0, 9) ? 1 : 0,
                    () -> due.put(x, y, r, g, 0, 9));
        }
        return same;
    }

    private boolean manyCalls() {
        boolean same = random.nextBoolean() || fill();
        for (int i = 0; i < 350 && same; i++) {
            int kind = random.nextInt(100);
            same = kind < 12 ? change() : kind < 24 ? make() : ask();
        }
        return same;
    }

    private boolean fewCallsAndState() {
        boolean same = fill();
        for (int i = 0; i < 12 && same; i++) {
            same = change();
        }
        same = same && make() && sameState();
        if (same && due.told(3) > 0) {
            int kind = random.nextInt(3);
            same = same(text("dither", kind), () -> mine.dither(kind), () -> due.dither(kind)) && sameState();
        }
        return same;
    }

    public static void main(String[] args) {
        int seeds = args.length > 0 ? Integer.parseInt(args[0]) : 400;
        int wrong = 0;
        for (int seed = 0; seed < seeds; seed++) {
            RandomRunsTest run = new RandomRunsTest(seed);
            boolean small = run.due.width * run.due.height <= 40;
            if (!(seed % 2 == 0 && small ? run.fewCallsAndState() : run.manyCalls())) {
                System.out.println("  seed " + seed + ", last call " + run.call);
                wrong++;
            }
        }
        System.out.println(seeds + " random runs, " + wrong + " wrong");
        if (wrong != 0) {
            System.exit(1);
        }
    }
}
