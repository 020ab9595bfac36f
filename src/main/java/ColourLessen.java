import java.util.Arrays;

/**
 * A picture's colours made fewer: by boxes that are cut, by joining what is alike, or as they are
 * given; then brought to means by rounds; each sample has the nearest one, or one by which what was
 * missed before it is made good.
 *
 * <p>A colour is held as one int, as at() tells it: the order of colours is then that of the ints
 * without sign. All rows are made once, in the constructors; no call makes one.
 */
public final class ColourLessen {
    public static final int NONE = -1;

    private static final int MAX_SIDE = 24;
    private static final int CHANNELS = 4;
    private static final int MAX_LEVEL = 255;
    private static final int MAX_COLOURS = 64;
    private static final int MAX_ROUNDS = 20;
    private static final int MAX_GROUPS = 40;

    private static final int BY_BOXES = 0;
    private static final int BY_JOINING = 1;
    private static final int AS_GIVEN = 2;

    private static final int NO_DITHER = 0;
    private static final int TURNING_DITHER = 2;

    /** Bits that hold any number below 24 * 24, so that it can ride behind a key that is sorted. */
    private static final int PLACE_BITS = 10;
    private static final long PLACE_MASK = (1L << PLACE_BITS) - 1L;
    private static final long UNSIGNED = 0xFFFFFFFFL;

    private final int width;
    private final int height;
    private final int[] samples;
    /** For each sample its place in the palette. */
    private final int[] held;
    private final Shades shades;
    private final Boxes boxes;
    private final Pools pools;
    private final Offer offer;
    private final Palette palette;
    private final Fitting fitting;
    private final Carry carry;

    public ColourLessen(int width, int height) {
        this.width = within(width, 1, MAX_SIDE);
        this.height = within(height, 1, MAX_SIDE);
        int places = this.width * this.height;
        samples = new int[places];
        held = new int[places];
        shades = new Shades(places);
        boxes = new Boxes(places);
        pools = new Pools();
        offer = new Offer();
        palette = new Palette();
        fitting = new Fitting(places);
        carry = new Carry(this.width);
    }

    public boolean put(int x, int y, int r, int g, int b, int a)
            throws IndexOutOfBoundsException, IllegalArgumentException {
        checkPlace(x, y);
        checkLevels(r, g, b, a);
        int place = placeOf(x, y);
        int wanted = packed(r, g, b, a);
        boolean another = samples[place] != wanted;
        samples[place] = wanted;
        forgetMade();
        return another;
    }

    public int paint(int x, int y, int many, int colour, int step)
            throws IndexOutOfBoundsException, IllegalArgumentException {
        checkPlace(x, y);
        if (many < 0) {
            throw new IllegalArgumentException("a number of samples below 0");
        }
        int from = placeOf(x, y);
        int painted = Math.min(many, samples.length - from);
        int next = colour;
        for (int place = from; place < from + painted; place++) {
            samples[place] = next;
            next = stepped(next, step);
        }
        forgetMade();
        return painted;
    }

    public int at(int x, int y) throws IndexOutOfBoundsException {
        checkPlace(x, y);
        return samples[placeOf(x, y)];
    }

    public int run(int way, int colours, int rounds) throws IllegalArgumentException {
        if (way < BY_BOXES || way > AS_GIVEN) {
            throw new IllegalArgumentException("no such way");
        }
        if (colours < 1 || colours > MAX_COLOURS) {
            throw new IllegalArgumentException("colours are not 1 .. 64");
        }
        if (rounds < 0 || rounds > MAX_ROUNDS) {
            throw new IllegalArgumentException("rounds are not 0 .. 20");
        }
        if (way == AS_GIVEN && offer.size == 0) {
            throw new IllegalArgumentException("nothing was given");
        }
        shades.gather(samples);
        palette.drop();
        fillPalette(way, colours);
        fitting.bringToMeans(shades, palette, pools, rounds);
        if (way != AS_GIVEN) {
            fitting.putInOrder(shades, palette);
        }
        holdClosest();
        return palette.size;
    }

    public int given(int k, int r, int g, int b, int a)
            throws IndexOutOfBoundsException, IllegalArgumentException {
        if (k < 0 || k >= MAX_COLOURS) {
            throw new IndexOutOfBoundsException("no such place to give a colour for");
        }
        if (r == NONE) {
            offer.withdraw(k);
        } else {
            checkLevels(r, g, b, a);
            offer.accept(k, packed(r, g, b, a));
        }
        return offer.size;
    }

    public int colour(int k, int channel) throws IllegalStateException, IndexOutOfBoundsException {
        checkPalette();
        checkPaletteColour(k);
        if (channel < 0 || channel >= CHANNELS) {
            throw new IndexOutOfBoundsException("no such channel");
        }
        return palette.levels[k * CHANNELS + channel];
    }

    public int index(int x, int y) throws IllegalStateException, IndexOutOfBoundsException {
        checkPalette();
        checkPlace(x, y);
        return held[placeOf(x, y)];
    }

    public int nearest(int r, int g, int b, int a) throws IllegalStateException, IllegalArgumentException {
        checkPalette();
        checkLevels(r, g, b, a);
        return palette.closest(r, g, b, a);
    }

    public long sum(int round) throws IllegalStateException, IndexOutOfBoundsException {
        checkPalette();
        if (round < 0 || round > fitting.rounds) {
            throw new IndexOutOfBoundsException("no such round");
        }
        return fitting.missed[round];
    }

    public int dither(int kind) throws IllegalStateException, IllegalArgumentException {
        checkPalette();
        if (kind < NO_DITHER || kind > TURNING_DITHER) {
            throw new IllegalArgumentException("no such kind");
        }
        if (kind == NO_DITHER) {
            holdClosest();
        } else {
            holdWithCarry(kind == TURNING_DITHER);
        }
        return heldOtherThanClosest();
    }

    public int count(int k) throws IllegalStateException, IndexOutOfBoundsException {
        checkPalette();
        checkPaletteColour(k);
        int many = 0;
        for (int place = 0; place < held.length; place++) {
            if (held[place] == k) {
                many++;
            }
        }
        return many;
    }

    public boolean exact() throws IllegalStateException {
        checkPalette();
        for (int place = 0; place < samples.length; place++) {
            if (samples[place] != palette.packedOf(held[place])) {
                return false;
            }
        }
        return true;
    }

    public int told(int what) {
        switch (what) {
            case 0:
                return width;
            case 1:
                return height;
            case 2:
                shades.gather(samples);
                return shades.size;
            case 3:
                return palette.size;
            case 4:
                return offer.size;
            default:
                return NONE;
        }
    }

    public void clear() {
        Arrays.fill(samples, 0);
        offer.withdrawAll();
        forgetMade();
    }

    private void checkPlace(int x, int y) {
        if (x < 0 || x >= width || y < 0 || y >= height) {
            throw new IndexOutOfBoundsException("no such place of the picture");
        }
    }

    private void checkPalette() {
        if (palette.size == 0) {
            throw new IllegalStateException("there is no palette");
        }
    }

    private void checkPaletteColour(int k) {
        if (k < 0 || k >= palette.size) {
            throw new IndexOutOfBoundsException("no such place of the palette");
        }
    }

    private static void checkLevels(int r, int g, int b, int a) {
        if (!isLevel(r) || !isLevel(g) || !isLevel(b) || !isLevel(a)) {
            throw new IllegalArgumentException("a channel is not 0 .. 255");
        }
    }

    private int placeOf(int x, int y) {
        return y * width + x;
    }

    private void forgetMade() {
        shades.stale = true;
        palette.drop();
    }

    private void fillPalette(int way, int wanted) {
        if (way == AS_GIVEN) {
            offer.addTo(palette, wanted);
        } else if (shades.size <= wanted) {
            for (int shade = 0; shade < shades.size; shade++) {
                palette.add(shades.tint[shade]);
            }
        } else {
            if (way == BY_JOINING) {
                poolGroups();
                pools.joinDownTo(wanted);
            } else {
                boxes.cut(shades, wanted);
                boxes.pourInto(pools, shades);
            }
            pools.addMeansTo(palette);
        }
    }

    private void poolGroups() {
        if (shades.size > MAX_GROUPS) {
            boxes.cut(shades, MAX_GROUPS);
            boxes.pourInto(pools, shades);
            return;
        }
        pools.start(shades.size);
        for (int shade = 0; shade < shades.size; shade++) {
            pools.pour(shade, shades.tint[shade], shades.many[shade]);
        }
    }

    private void holdClosest() {
        for (int place = 0; place < held.length; place++) {
            held[place] = fitting.taken[shades.rank[place]];
        }
    }

    private int heldOtherThanClosest() {
        int others = 0;
        for (int place = 0; place < held.length; place++) {
            if (held[place] != fitting.taken[shades.rank[place]]) {
                others++;
            }
        }
        return others;
    }

    private void holdWithCarry(boolean turning) {
        carry.startPicture();
        for (int y = 0; y < height; y++) {
            boolean backward = turning && (y & 1) == 1;
            carry.startRow();
            for (int i = 0; i < width; i++) {
                int x = backward ? width - 1 - i : i;
                int place = placeOf(x, y);
                held[place] = carry.choose(samples[place], x, palette);
            }
        }
    }

    private static int within(int value, int least, int greatest) {
        return Math.max(least, Math.min(greatest, value));
    }

    private static boolean isLevel(int value) {
        return value >= 0 && value <= MAX_LEVEL;
    }

    private static int packed(int r, int g, int b, int a) {
        return (r << 24) | (g << 16) | (b << 8) | a;
    }

    private static int levelOf(int tint, int channel) {
        return (tint >>> (24 - 8 * channel)) & MAX_LEVEL;
    }

    private static int stepped(int tint, int step) {
        // The mask is the rest by 256 even where the sum runs over, since 256 divides 2^32.
        return packed((levelOf(tint, 0) + step) & MAX_LEVEL, (levelOf(tint, 1) + step) & MAX_LEVEL,
                (levelOf(tint, 2) + step) & MAX_LEVEL, (levelOf(tint, 3) + step) & MAX_LEVEL);
    }

    private static int square(int value) {
        return value * value;
    }

    private static int farApart(int one, int other) {
        int far = 0;
        for (int channel = 0; channel < CHANNELS; channel++) {
            far += square(levelOf(one, channel) - levelOf(other, channel));
        }
        return far;
    }

    /** Heapsort of keys[from .. to - 1]: it needs no second row. */
    private static void sortKeys(long[] keys, int from, int to) {
        int many = to - from;
        for (int root = many / 2 - 1; root >= 0; root--) {
            sink(keys, from, root, many);
        }
        for (int last = many - 1; last > 0; last--) {
            long greatest = keys[from];
            keys[from] = keys[from + last];
            keys[from + last] = greatest;
            sink(keys, from, 0, last);
        }
    }

    private static void sink(long[] keys, int from, int root, int many) {
        long sinking = keys[from + root];
        int hole = root;
        for (int child = 2 * root + 1; child < many; child = 2 * child + 1) {
            if (child + 1 < many && keys[from + child] < keys[from + child + 1]) {
                child++;
            }
            if (keys[from + child] <= sinking) {
                break;
            }
            keys[from + hole] = keys[from + child];
            hole = child;
        }
        keys[from + hole] = sinking;
    }

    /** The picture's different colours, in order. */
    private static final class Shades {
        final int[] tint;
        final int[] many;
        /** For each sample the number of its shade. */
        final int[] rank;
        final long[] keys;
        int size;
        /** Whether the picture may have changed since the shades were gathered. */
        boolean stale;

        Shades(int places) {
            tint = new int[places];
            many = new int[places];
            rank = new int[places];
            keys = new long[places];
            size = 0;
            stale = true;
        }

        void gather(int[] samples) {
            if (!stale) {
                return;
            }
            for (int place = 0; place < keys.length; place++) {
                keys[place] = ((samples[place] & UNSIGNED) << PLACE_BITS) | place;
            }
            sortKeys(keys, 0, keys.length);
            size = 0;
            for (int i = 0; i < keys.length; i++) {
                int place = (int) (keys[i] & PLACE_MASK);
                enlist(samples[place]);
                rank[place] = size - 1;
            }
            stale = false;
        }

        /** Samples come in order, so one of a known shade is of the newest. */
        private void enlist(int sample) {
            if (size == 0 || tint[size - 1] != sample) {
                tint[size] = sample;
                many[size] = 0;
                size++;
            }
            many[size - 1]++;
        }
    }

    /** Shades in boxes: each box is a stretch of one row of shades. */
    private static final class Boxes {
        final int[] row;
        final int[] start = new int[MAX_COLOURS];
        final int[] end = new int[MAX_COLOURS];
        final int[] weight = new int[MAX_COLOURS];
        final int[] spread = new int[MAX_COLOURS];
        final int[] widest = new int[MAX_COLOURS];
        int size;

        Boxes(int places) {
            row = new int[places];
            size = 0;
        }

        void cut(Shades shades, int wanted) {
            for (int shade = 0; shade < shades.size; shade++) {
                row[shade] = shade;
            }
            size = 1;
            measure(0, 0, shades.size, shades);
            for (int next = 1; next < wanted && next < MAX_COLOURS; next++) {
                int box = nextToCut();
                if (end[box] - start[box] < 2) {
                    return;
                }
                sortAlongWidest(box, shades);
                int middle = cutPlace(box, shades);
                int last = end[box];
                size = next + 1;
                measure(box, start[box], middle, shades);
                measure(next, middle, last, shades);
            }
        }

        void pourInto(Pools pools, Shades shades) {
            pools.start(size);
            for (int box = 0; box < size; box++) {
                for (int i = start[box]; i < end[box]; i++) {
                    pools.pour(box, shades.tint[row[i]], shades.many[row[i]]);
                }
            }
        }

        private void measure(int box, int from, int to, Shades shades) {
            start[box] = from;
            end[box] = to;
            weight[box] = 0;
            for (int i = from; i < to; i++) {
                weight[box] += shades.many[row[i]];
            }
            spread[box] = -1;
            for (int channel = 0; channel < CHANNELS; channel++) {
                int found = spreadOf(channel, from, to, shades);
                if (found > spread[box]) {
                    spread[box] = found;
                    widest[box] = channel;
                }
            }
        }

        private int spreadOf(int channel, int from, int to, Shades shades) {
            int least = MAX_LEVEL;
            int greatest = 0;
            for (int i = from; i < to; i++) {
                int level = levelOf(shades.tint[row[i]], channel);
                least = Math.min(least, level);
                greatest = Math.max(greatest, level);
            }
            return greatest - least;
        }

        private int nextToCut() {
            int best = 0;
            for (int box = 1; box < size; box++) {
                boolean wider = spread[box] > spread[best];
                boolean heavier = spread[box] == spread[best] && weight[box] > weight[best];
                if (wider || heavier) {
                    best = box;
                }
            }
            return best;
        }

        private void sortAlongWidest(int box, Shades shades) {
            // Shades are numbered in the order of colours, so the number breaks ties as is told.
            for (int i = start[box]; i < end[box]; i++) {
                int level = levelOf(shades.tint[row[i]], widest[box]);
                shades.keys[i] = ((long) level << PLACE_BITS) | row[i];
            }
            sortKeys(shades.keys, start[box], end[box]);
            for (int i = start[box]; i < end[box]; i++) {
                row[i] = (int) (shades.keys[i] & PLACE_MASK);
            }
        }

        /** Where the new box begins: the last shade always goes, the first one never. */
        private int cutPlace(int box, Shades shades) {
            int middle = end[box] - 1;
            int left = weight[box] - shades.many[row[middle]];
            for (int i = middle - 1; i > start[box]; i--) {
                left -= shades.many[row[i]];
                if (2 * left < weight[box]) {
                    break;
                }
                middle = i;
            }
            return middle;
        }
    }

    /** Pools of samples, by numbers; each is held as sums alone, since a mean needs no more. */
    private static final class Pools {
        final int[] totals = new int[MAX_COLOURS * CHANNELS];
        final int[] many = new int[MAX_COLOURS];
        final int[] means = new int[MAX_COLOURS];
        int size;

        void start(int wanted) {
            size = Math.min(wanted, MAX_COLOURS);
            Arrays.fill(totals, 0);
            Arrays.fill(many, 0);
        }

        void pour(int pool, int tint, int weight) {
            for (int channel = 0; channel < CHANNELS; channel++) {
                totals[pool * CHANNELS + channel] += levelOf(tint, channel) * weight;
            }
            many[pool] += weight;
        }

        int meanOf(int pool) {
            return packed(meanLevel(pool, 0), meanLevel(pool, 1), meanLevel(pool, 2), meanLevel(pool, 3));
        }

        void addMeansTo(Palette palette) {
            for (int pool = 0; pool < size; pool++) {
                palette.add(meanOf(pool));
            }
        }

        void joinDownTo(int wanted) {
            for (int pool = 0; pool < size; pool++) {
                means[pool] = meanOf(pool);
            }
            for (int now = size; now > wanted && now > 1; now--) {
                joinCheapestPair();
            }
        }

        private int meanLevel(int pool, int channel) {
            if (many[pool] <= 0) {
                return 0;
            }
            return (2 * totals[pool * CHANNELS + channel] + many[pool]) / (2 * many[pool]);
        }

        private void joinCheapestPair() {
            int lesser = 0;
            int greater = 1;
            long least = Long.MAX_VALUE;
            for (int one = 0; one < size; one++) {
                for (int other = one + 1; other < size; other++) {
                    long cost = costOfJoining(one, other);
                    if (cost < least) {
                        least = cost;
                        lesser = one;
                        greater = other;
                    }
                }
            }
            join(lesser, greater);
        }

        private long costOfJoining(int one, int other) {
            int both = many[one] + many[other];
            if (both <= 0) {
                return 0;
            }
            return (long) many[one] * many[other] * farApart(means[one], means[other]) / both;
        }

        /** Pools behind the one that is gone move up: their order is all that their numbers tell. */
        private void join(int lesser, int greater) {
            for (int channel = 0; channel < CHANNELS; channel++) {
                totals[lesser * CHANNELS + channel] += totals[greater * CHANNELS + channel];
            }
            many[lesser] += many[greater];
            means[lesser] = meanOf(lesser);
            int behind = size - greater - 1;
            System.arraycopy(totals, (greater + 1) * CHANNELS, totals, greater * CHANNELS, behind * CHANNELS);
            System.arraycopy(many, greater + 1, many, greater, behind);
            System.arraycopy(means, greater + 1, means, greater, behind);
            size--;
        }
    }

    /** The colours that were given, by their places. */
    private static final class Offer {
        final int[] tint = new int[MAX_COLOURS];
        final boolean[] there = new boolean[MAX_COLOURS];
        int size;

        void accept(int k, int colour) {
            if (!there[k]) {
                there[k] = true;
                size++;
            }
            tint[k] = colour;
        }

        void withdraw(int k) {
            if (there[k]) {
                there[k] = false;
                size--;
            }
        }

        void withdrawAll() {
            for (int k = 0; k < MAX_COLOURS; k++) {
                withdraw(k);
            }
        }

        void addTo(Palette palette, int wanted) {
            for (int k = 0; k < MAX_COLOURS && palette.size < wanted; k++) {
                if (there[k]) {
                    palette.add(tint[k]);
                }
            }
        }
    }

    /** The colours that samples can have; of size 0 there is none. */
    private static final class Palette {
        final int[] levels = new int[MAX_COLOURS * CHANNELS];
        int size;

        void drop() {
            size = 0;
        }

        void add(int tint) {
            if (size < MAX_COLOURS) {
                replace(size, tint);
                size++;
            }
        }

        void replace(int k, int tint) {
            for (int channel = 0; channel < CHANNELS; channel++) {
                levels[k * CHANNELS + channel] = levelOf(tint, channel);
            }
        }

        int packedOf(int k) {
            int first = k * CHANNELS;
            return packed(levels[first], levels[first + 1], levels[first + 2], levels[first + 3]);
        }

        int closest(int r, int g, int b, int a) {
            int best = 0;
            int least = Integer.MAX_VALUE;
            for (int k = 0; k < size; k++) {
                int first = k * CHANNELS;
                int far = square(r - levels[first]) + square(g - levels[first + 1]);
                // Half of the channels often shows that a colour is too far: most of the time goes here.
                if (far < least) {
                    far += square(b - levels[first + 2]) + square(a - levels[first + 3]);
                    if (far < least) {
                        least = far;
                        best = k;
                    }
                }
            }
            return best;
        }
    }

    /** Which colour of the palette each shade takes, and how the palette is brought to means. */
    private static final class Fitting {
        /** For each shade its place in the palette: samples of one colour take the same. */
        final int[] taken;
        final long[] missed = new long[MAX_ROUNDS + 1];
        final int[] takers = new int[MAX_COLOURS];
        final long[] keys = new long[MAX_COLOURS];
        int rounds;

        Fitting(int places) {
            taken = new int[places];
            rounds = 0;
        }

        void bringToMeans(Shades shades, Palette palette, Pools pools, int wanted) {
            rounds = Math.min(wanted, MAX_ROUNDS);
            long now = takeClosest(shades, palette);
            boolean moving = true;
            for (int round = 0; round < rounds; round++) {
                missed[round] = now;
                // Once a round moves no colour, all later rounds are the same as this one.
                moving = moving && moveToMeans(shades, palette, pools);
                if (moving) {
                    now = takeClosest(shades, palette);
                }
            }
            missed[rounds] = now;
        }

        void putInOrder(Shades shades, Palette palette) {
            Arrays.fill(takers, 0);
            for (int shade = 0; shade < shades.size; shade++) {
                takers[taken[shade]] += shades.many[shade];
            }
            for (int k = 0; k < palette.size; k++) {
                long fewer = MAX_SIDE * MAX_SIDE - takers[k];
                keys[k] = (fewer << 32) | (palette.packedOf(k) & UNSIGNED);
            }
            sortKeys(keys, 0, palette.size);
            for (int k = 0; k < palette.size; k++) {
                palette.replace(k, (int) keys[k]);
            }
            takeClosest(shades, palette);
        }

        /** How far samples are from the colours that they take, in all. */
        private long takeClosest(Shades shades, Palette palette) {
            long all = 0;
            for (int shade = 0; shade < shades.size; shade++) {
                int tint = shades.tint[shade];
                int k = palette.closest(levelOf(tint, 0), levelOf(tint, 1), levelOf(tint, 2), levelOf(tint, 3));
                taken[shade] = k;
                all += (long) shades.many[shade] * farApart(tint, palette.packedOf(k));
            }
            return all;
        }

        /** Whether a colour of the palette is another one then. */
        private boolean moveToMeans(Shades shades, Palette palette, Pools pools) {
            pools.start(palette.size);
            for (int shade = 0; shade < shades.size; shade++) {
                pools.pour(taken[shade], shades.tint[shade], shades.many[shade]);
            }
            boolean moved = false;
            for (int k = 0; k < palette.size; k++) {
                if (pools.many[k] > 0 && pools.meanOf(k) != palette.packedOf(k)) {
                    palette.replace(k, pools.meanOf(k));
                    moved = true;
                }
            }
            return moved;
        }
    }

    /** What samples missed, on its way to the next one of the row and to the one below. */
    private static final class Carry {
        final int[] ahead = new int[CHANNELS];
        /** One row is enough: a sample takes its part out before it leaves one for the row below. */
        final int[] below;
        final int[] wish = new int[CHANNELS];

        Carry(int width) {
            below = new int[width * CHANNELS];
        }

        void startPicture() {
            Arrays.fill(below, 0);
        }

        void startRow() {
            Arrays.fill(ahead, 0);
        }

        int choose(int sample, int x, Palette palette) {
            for (int channel = 0; channel < CHANNELS; channel++) {
                wish[channel] = levelOf(sample, channel) + ahead[channel] + below[x * CHANNELS + channel];
            }
            int k = palette.closest(broughtIn(0), broughtIn(1), broughtIn(2), broughtIn(3));
            for (int channel = 0; channel < CHANNELS; channel++) {
                int miss = wish[channel] - palette.levels[k * CHANNELS + channel];
                ahead[channel] = miss / 2;
                below[x * CHANNELS + channel] = miss - miss / 2;
            }
            return k;
        }

        private int broughtIn(int channel) {
            return within(wish[channel], 0, MAX_LEVEL);
        }
    }
}
