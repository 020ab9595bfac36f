/** Promises 1 to 15: a test of its own for each sentence, or part of one, that names a boundary case. */
public final class EdgesTest {
    private static final int MIN = Integer.MIN_VALUE;
    private static final int MAX = Integer.MAX_VALUE;
    private static final int NONE = ColourLessen.NONE;
    private static final int[] NO_LEVELS = {-1, 256, MIN, MAX};
    private static final Check CHECK = new Check();

    /** A call with a place of a picture of 3 times 2 samples. */
    private interface PlaceCall {
        long answer(ColourLessen x, int column, int row);
    }

    /** A call with the four channels of a colour. */
    private interface LevelsCall {
        long answer(int r, int g, int b, int a);
    }

    /** Each place just beyond the picture, and far beyond it, is refused; the four corners are not. */
    private static void duePlaces(ColourLessen x, PlaceCall call) {
        int[][] beyond = {{-1, 0}, {3, 0}, {0, -1}, {0, 2}, {-1, 1}, {3, 1}, {2, -1}, {2, 2}, {2, 1 + (1 << 30)},
            {MIN, 0}, {MAX, 0}, {0, MIN}, {0, MAX}, {MIN, MIN}, {MAX, MAX}, {-3, 1}, {5, -1}};
        for (int[] p : beyond) {
            CHECK.duePlace("(" + p[0] + ", " + p[1] + ")", () -> call.answer(x, p[0], p[1]));
        }
        int[][] corners = {{0, 0}, {2, 0}, {0, 1}, {2, 1}};
        for (int[] p : corners) {
            String answer = Check.answerOf(() -> call.answer(x, p[0], p[1]));
            CHECK.due("(" + p[0] + ", " + p[1] + ") is refused", answer.startsWith("java"), false);
        }
    }

    private static void dueLevels(LevelsCall call) {
        for (int bad : NO_LEVELS) {
            CHECK.dueArgument("green " + bad, () -> call.answer(0, bad, 0, 0));
            CHECK.dueArgument("blue " + bad, () -> call.answer(0, 0, bad, 0));
            CHECK.dueArgument("alpha " + bad, () -> call.answer(0, 0, 0, bad));
        }
        for (int bad : new int[] {-2, 256, MIN, MAX}) {
            CHECK.dueArgument("red " + bad, () -> call.answer(bad, 0, 0, 0));
        }
        for (int level : new int[] {0, 255}) {
            String answer = Check.answerOf(() -> call.answer(level, level, level, level));
            CHECK.due("channels of " + level + " are refused", answer.startsWith("java"), false);
        }
    }

    private static void newObject() {
        CHECK.begin("promise 1: 1 .. 24 each");
        for (int size = 1; size <= 24; size++) {
            CHECK.due("width " + size, new ColourLessen(size, 5).told(0), size);
            CHECK.due("height " + size, new ColourLessen(5, size).told(1), size);
        }
        CHECK.begin("promise 1: another number counts as the nearest of these, too small");
        for (int size : new int[] {0, -1, -24, MIN}) {
            dueSize(size, 1);
        }
        CHECK.begin("promise 1: another number counts as the nearest of these, too large");
        for (int size : new int[] {25, 26, 1 << 16, MAX}) {
            dueSize(size, 24);
        }
        CHECK.begin("promise 1: all its channels are 0");
        ColourLessen x = new ColourLessen(18, 24);
        for (int i = 0; i < 18 * 24; i++) {
            CHECK.due("sample " + i, x.at(i % 18, i / 18), 0);
        }
        CHECK.begin("promise 1: a new object has no palette, and nothing is given");
        CHECK.due("different colours", x.told(2), 1);
        CHECK.due("palette", x.told(3), 0);
        CHECK.due("given", x.told(4), 0);
    }

    private static void dueSize(int number, int size) {
        ColourLessen wide = new ColourLessen(number, 7);
        CHECK.due("width " + number, wide.told(0), size);
        CHECK.due("its height", wide.told(1), 7);
        CHECK.due("its last column", wide.put(size - 1, 6, 1, 1, 1, 1), true);
        CHECK.duePlace("one column more", () -> wide.at(size, 6));
        ColourLessen high = new ColourLessen(7, number);
        CHECK.due("height " + number, high.told(1), size);
        CHECK.due("its width", high.told(0), 7);
        CHECK.due("its last row", high.put(6, size - 1, 1, 1, 1, 1), true);
        CHECK.duePlace("one row more", () -> high.at(6, size));
    }

    private static void put() {
        CHECK.begin("promise 2: a sample has a colour, at the picture's corners");
        ColourLessen x = new ColourLessen(3, 2);
        x.put(0, 0, 1, 0, 0, 0);
        x.put(2, 0, 2, 0, 0, 0);
        x.put(0, 1, 3, 0, 0, 0);
        x.put(2, 1, 4, 0, 0, 0);
        int[] want = {1, 0, 2, 3, 0, 4};
        for (int i = 0; i < 6; i++) {
            CHECK.due("sample " + i, x.at(i % 3, i / 3), want[i] << 24);
        }
        CHECK.begin("promise 2: whether it is another one");
        for (int channel = 0; channel < 4; channel++) {
            x.put(1, 1, 255, 255, 255, 255);
            int[] level = {255, 255, 255, 255};
            level[channel] = 254;
            CHECK.due("one less in channel " + channel, x.put(1, 1, level[0], level[1], level[2], level[3]), true);
            CHECK.due("the same once more", x.put(1, 1, level[0], level[1], level[2], level[3]), false);
        }
        CHECK.due("black at first", x.put(1, 0, 0, 0, 0, 0), false);
        CHECK.begin("promise 2: there is no palette then");
        x.run(0, 2, 1);
        x.put(1, 0, 7, 7, 7, 7);
        CHECK.due("another colour", x.told(3), 0);
        x.run(0, 2, 1);
        x.put(1, 0, 7, 7, 7, 7);
        CHECK.due("the same colour", x.told(3), 0);
        CHECK.dueState("no sum of it", () -> x.sum(0));
        CHECK.begin("promise 2: no such place");
        duePlaces(x, (it, column, row) -> it.put(column, row, 0, 0, 0, 0) ? 1 : 0);
        CHECK.begin("promise 2: a channel is not 0 .. 255");
        dueLevels((r, g, b, a) -> x.put(1, 1, r, g, b, a) ? 1 : 0);
        CHECK.dueArgument("red -1, which is none only for given()", () -> x.put(1, 1, -1, 0, 0, 0) ? 1 : 0);
        CHECK.begin("promise 2: the first one of two");
        CHECK.duePlace("place and channel", () -> x.put(3, 0, 256, 0, 0, 0) ? 1 : 0);
    }

    private static void dueSamples(ColourLessen x, int... tints) {
        int width = x.told(0);
        for (int i = 0; i < tints.length; i++) {
            CHECK.due("sample " + i, Integer.toHexString(x.at(i % width, i / width)), Integer.toHexString(tints[i]));
        }
    }

    private static void paint() {
        CHECK.begin("promise 3: row by row");
        ColourLessen x = new ColourLessen(3, 2);
        CHECK.due("over the row's end", x.paint(2, 0, 2, 0x10203040, 1), 2);
        dueSamples(x, 0, 0, 0x10203040, 0x11213141, 0, 0);
        CHECK.begin("promise 3: as long as there are such");
        CHECK.due("one less than there are", x.paint(1, 1, 1, 0x05050505, 1), 1);
        dueSamples(x, 0, 0, 0x10203040, 0x11213141, 0x05050505, 0);
        CHECK.due("as many as there are", x.paint(1, 1, 2, 0x06060606, 1), 2);
        dueSamples(x, 0, 0, 0x10203040, 0x11213141, 0x06060606, 0x07070707);
        CHECK.due("one more", x.paint(1, 1, 3, 0x08080808, 1), 2);
        dueSamples(x, 0, 0, 0x10203040, 0x11213141, 0x08080808, 0x09090909);
        CHECK.due("the last place, one", x.paint(2, 1, 1, 1, 1), 1);
        CHECK.due("the last place, two", x.paint(2, 1, 2, 1, 1), 1);
        CHECK.due("the last place, the greatest number", x.paint(2, 1, MAX, 1, 1), 1);
        CHECK.due("the first place, the greatest number", x.paint(0, 0, MAX, 1, 0), 6);
        dueSamples(x, 1, 1, 1, 1, 1, 1);
        CHECK.due("the greatest picture", new ColourLessen(24, 24).paint(0, 0, 577, 0, 1), 576);
        CHECK.begin("promise 3: none");
        CHECK.due("no samples", x.paint(0, 0, 0, 7, 7), 0);
        CHECK.due("no samples at the end", x.paint(2, 1, 0, 7, 7), 0);
        dueSamples(x, 1, 1, 1, 1, 1, 1);
        CHECK.begin("promise 3: there is no palette then");
        x.run(0, 1, 0);
        x.paint(0, 0, 1, 1, 0);
        CHECK.due("the same colour", x.told(3), 0);
        x.run(0, 1, 0);
        x.paint(0, 0, 0, 1, 0);
        CHECK.due("no samples", x.told(3), 0);
        CHECK.begin("promise 3: no such place");
        duePlaces(x, (it, column, row) -> it.paint(column, row, 1, 0, 0));
        CHECK.duePlace("nor for none", () -> x.paint(3, 1, 0, 0, 0));
        CHECK.begin("promise 3: the number is below 0");
        for (int many : new int[] {-1, -6, MIN}) {
            CHECK.dueArgument("many " + many, () -> x.paint(0, 0, many, 0, 0));
        }
        CHECK.begin("promise 3: the first one of two");
        CHECK.duePlace("place and number", () -> x.paint(0, 2, -1, 0, 0));
    }

    private static void paintSteps() {
        CHECK.begin("promise 3: each next one in each channel the step more, as its rest by 256");
        int[][] cases = {
            {0x00FF7F80, 1, 0x01008081, 0x02018182},
            {0x0001FF80, -1, 0xFF00FE7F, 0xFEFFFD7E},
            {0xFFFFFFFF, 1, 0x00000000, 0x01010101},
            {0x01020304, 255, 0x00010203, 0xFF000102},
            {0x01020304, -255, 0x02030405, 0x03040506},
            {0x01020304, 256, 0x01020304, 0x01020304},
            {0x01020304, -256, 0x01020304, 0x01020304},
            {0x80FF007F, 257, 0x81000180, 0x82010281},
            {0x80FF007F, 128, 0x007F80FF, 0x80FF007F},
            {0xFFFFFFFF, MAX, 0xFEFEFEFE, 0xFDFDFDFD},
            {0xFFFEFDFC, MIN, 0xFFFEFDFC, 0xFFFEFDFC},
            {0x00010203, MIN + 1, 0x01020304, 0x02030405},
            {MIN, 0, MIN, MIN},
            {MAX, 0, MAX, MAX}};
        for (int[] c : cases) {
            ColourLessen x = new ColourLessen(1, 3);
            x.paint(0, 0, 3, c[0], c[1]);
            dueSamples(x, c[0], c[2], c[3]);
        }
        ColourLessen y = new ColourLessen(24, 24);
        y.paint(0, 0, 576, 0x00FF8001, 1);
        CHECK.due("256 samples on, all is as at the first", y.at(16, 10), 0x00FF8001);
        CHECK.due("255 samples on", y.at(15, 10), 0xFFFE7F00);
        CHECK.due("256 different ones", y.told(2), 256);
    }

    private static void at() {
        CHECK.begin("promise 4: red times 2^24 .. and alpha, running over");
        int[] tints = {0x01000000, 0x00010000, 0x00000100, 0x00000001, 0x7FFFFFFF, 0x80000000, 0xFF000000, 0xFFFFFFFF};
        for (int tint : tints) {
            ColourLessen x = new ColourLessen(2, 1);
            x.put(1, 0, tint >>> 24, (tint >> 16) & 255, (tint >> 8) & 255, tint & 255);
            CHECK.due("what was put", x.at(1, 0), tint);
            x.paint(0, 0, 1, tint, 0);
            CHECK.due("what was painted", x.at(0, 0), tint);
        }
        CHECK.begin("promise 4: no such place");
        duePlaces(new ColourLessen(3, 2), (x, column, row) -> x.at(column, row));
    }

    private static void run() {
        CHECK.begin("promise 5: the way is not 0 .. 2");
        ColourLessen x = Pictures.redsWith(new int[] {5}, 3, 10, 20, 30);
        for (int way : new int[] {-1, 3, MIN, MAX}) {
            CHECK.dueArgument("way " + way, () -> x.run(way, 1, 0));
        }
        for (int way = 0; way < 3; way++) {
            int one = way;
            CHECK.begin("promise 5: colours are not 1 .. 64; way " + way);
            for (int colours : new int[] {0, -1, 65, MIN, MAX}) {
                CHECK.dueArgument("colours " + colours, () -> x.run(one, colours, 0));
            }
            CHECK.due("1", x.run(way, 1, 0), 1);
            CHECK.due("64", x.run(way, 64, 0), way == 2 ? 1 : 3);
            CHECK.begin("promise 5: rounds not 0 .. 20; way " + way);
            for (int rounds : new int[] {-1, 21, MIN, MAX}) {
                CHECK.dueArgument("rounds " + rounds, () -> x.run(one, 2, rounds));
            }
            CHECK.due("0", x.run(way, 2, 0), way == 2 ? 1 : 2);
            CHECK.due("20", x.run(way, 2, 20), way == 2 ? 1 : 2);
        }
        CHECK.begin("promise 5: way 2, and nothing was given");
        ColourLessen y = Pictures.reds(10, 20);
        CHECK.dueArgument("never", () -> y.run(2, 1, 0));
        CHECK.due("the other ways need nothing", y.run(0, 1, 0) + y.run(1, 1, 0), 2);
        y.given(63, 5, 0, 0, 0);
        CHECK.due("at the last place", y.run(2, 1, 0), 1);
        y.given(63, NONE, 0, 0, 0);
        CHECK.dueArgument("not any more", () -> y.run(2, 1, 0));
        y.given(0, 0, 0, 0, 0);
        CHECK.due("black is a colour", y.run(2, 1, 0), 1);
        y.clear();
        CHECK.dueArgument("behind clear()", () -> y.run(2, 1, 0));
        CHECK.begin("promise 5: how many colours it has");
        runSizes();
    }

    private static void runSizes() {
        ColourLessen one = new ColourLessen(1, 1);
        one.put(0, 0, 255, 254, 253, 252);
        CHECK.due("one sample, boxes", one.run(0, 64, 20), 1);
        CHECK.dueTints("one sample, boxes", one, 0xFFFEFDFC);
        CHECK.due("one sample, joining", one.run(1, 1, 0), 1);
        CHECK.dueTints("one sample, joining", one, 0xFFFEFDFC);
        ColourLessen full = Pictures.fullOfColours();
        CHECK.due("576 colours, boxes", full.run(0, 64, 20), 64);
        CHECK.due("576 colours, joining", full.run(1, 64, 20), 40);
        CHECK.due("576 colours, one box", full.run(0, 1, 20), 1);
        CHECK.due("all samples", full.count(0), 576);
        CHECK.due("576 colours, one group", full.run(1, 1, 20), 1);
        CHECK.due("all samples too", full.count(0), 576);
        CHECK.due("a palette takes the last one's place", full.told(3), 1);
    }

    private static void given() {
        CHECK.begin("promise 6: for a place, 0 .. 63");
        ColourLessen x = Pictures.reds(1, 2);
        for (int k : new int[] {-1, 64, MIN, MAX}) {
            CHECK.duePlace("place " + k, () -> x.given(k, 0, 0, 0, 0));
            CHECK.duePlace("none for place " + k, () -> x.given(k, NONE, 0, 0, 0));
        }
        CHECK.begin("promise 6: how many are given");
        for (int k = 0; k < 64; k++) {
            CHECK.due("place " + k, x.given(k, 255, 255, 255, k), k + 1);
            CHECK.due("the first place again", x.given(0, 255, 255, 255, k), k + 1);
        }
        CHECK.due("a full row, the same place", x.given(63, 1, 1, 1, 1), 64);
        CHECK.due("told", x.told(4), 64);
        CHECK.begin("promise 6: or (NONE for red) none");
        for (int k = 0; k < 64; k++) {
            CHECK.due("none for " + k, x.given(k, NONE, 0, 0, 0), 63 - k);
        }
        CHECK.due("none where all are gone", x.given(0, NONE, 0, 0, 0), 0);
        CHECK.due("given anew", x.given(0, 0, 0, 0, 0), 1);
        CHECK.due("none where none was", x.given(1, NONE, 0, 0, 0), 1);
        CHECK.due("the other channels are then not looked at",
                Check.answerOf(() -> x.given(1, NONE, -1, 256, MAX)), "1");
        CHECK.begin("promise 6: (the palette stays)");
        x.run(2, 1, 0);
        x.dither(1);
        String before = Pictures.allOf(x);
        x.given(0, 200, 200, 200, 200);
        CHECK.due("another colour", Pictures.allOf(x), before);
        x.given(0, NONE, 0, 0, 0);
        CHECK.duePalette("none", x, 0);
        CHECK.begin("promise 6: a channel is not 0 .. 255");
        dueLevels((r, g, b, a) -> x.given(0, r, g, b, a));
        CHECK.begin("promise 6: the first one of two");
        CHECK.duePlace("place and channel", () -> x.given(64, 256, 0, 0, 0));
    }

    private static void colour() {
        CHECK.begin("promise 7: there is no palette");
        ColourLessen x = new ColourLessen(2, 1);
        CHECK.dueState("a new object", () -> x.colour(0, 0));
        CHECK.begin("promise 7: no such place of the palette");
        x.put(0, 0, 0, 255, 1, 254);
        x.put(1, 0, 255, 0, 254, 1);
        x.run(0, 64, 0);
        for (int k : new int[] {-1, 2, 63, 64, MIN, MAX}) {
            CHECK.duePlace("colour " + k, () -> x.colour(k, 0));
        }
        CHECK.begin("promise 7: no such channel");
        for (int channel : new int[] {-1, 4, MIN, MAX}) {
            CHECK.duePlace("channel " + channel, () -> x.colour(0, channel));
            CHECK.duePlace("channel " + channel + " of the last one", () -> x.colour(1, channel));
        }
        CHECK.begin("promise 7: the first and the last channel of the first and the last colour");
        CHECK.dueTints("both", x, 0x00FF01FE, 0xFF00FE01);
        CHECK.begin("promise 7: a lesser palette behind a greater one");
        x.run(0, 1, 0);
        CHECK.duePlace("colour 1 is gone", () -> x.colour(1, 0));
        CHECK.begin("promise 7: the first one of two");
        x.put(0, 0, 0, 0, 0, 0);
        CHECK.dueState("no palette, and no place", () -> x.colour(-1, 4));
    }

    private static void index() {
        CHECK.begin("promise 8: there is no palette");
        ColourLessen x = new ColourLessen(3, 2);
        CHECK.dueState("a new object", () -> x.index(0, 0));
        CHECK.begin("promise 8: no such place");
        x.run(0, 1, 0);
        duePlaces(x, (it, column, row) -> it.index(column, row));
        CHECK.begin("promise 8: what a sample takes, or has by dither()");
        ColourLessen y = Pictures.redsWith(new int[] {0, 255}, 4, 100, 100, 100, 100);
        y.run(2, 2, 0);
        CHECK.dueIndexes("takes", y, 0, 0, 0, 0);
        y.dither(1);
        CHECK.dueIndexes("has by dither", y, 0, 1, 0, 0);
        y.run(2, 2, 0);
        CHECK.dueIndexes("takes by the next run", y, 0, 0, 0, 0);
        CHECK.begin("promise 8: the first one of two");
        x.clear();
        CHECK.dueState("no palette, and no place", () -> x.index(3, 2));
    }

    private static void nearest() {
        CHECK.begin("promise 9: there is no palette");
        ColourLessen x = Pictures.redsWith(new int[] {20, 0, 20, 10}, 1, 0);
        CHECK.dueState("nothing was run", () -> x.nearest(0, 0, 0, 0));
        CHECK.begin("promise 9: the nearest colour, of these the first");
        x.run(2, 4, 0);
        CHECK.due("equal colours", x.nearest(20, 0, 0, 0), 0);
        CHECK.due("between the last and the first", x.nearest(15, 0, 0, 0), 0);
        CHECK.due("between the second and the last", x.nearest(5, 0, 0, 0), 1);
        CHECK.due("one beside", x.nearest(6, 0, 0, 0), 3);
        CHECK.due("the farthest of all", x.nearest(255, 255, 255, 255), 0);
        CHECK.due("the least of all", x.nearest(0, 0, 0, 0), 1);
        CHECK.begin("promise 9: a channel is not 0 .. 255");
        dueLevels((r, g, b, a) -> x.nearest(r, g, b, a));
        CHECK.dueArgument("red -1, which is none only for given()", () -> x.nearest(-1, 0, 0, 0));
        CHECK.begin("promise 9: the first one of two");
        x.clear();
        CHECK.dueState("no palette, and no channel", () -> x.nearest(256, 0, 0, 0));
    }

    private static void sum() {
        CHECK.begin("promise 10: there is no palette");
        ColourLessen x = Pictures.redsWith(new int[] {2, 3}, 4, 0, 2, 3, 10);
        CHECK.dueState("nothing was run", () -> x.sum(0));
        CHECK.begin("promise 10: 0 .. how many there were (that behind all)");
        long[] sums = {53, 15, 5, 5};
        for (int i = 0; i < 4; i++) {
            int rounds = i;
            x.run(2, 2, rounds);
            for (int round = 0; round <= rounds; round++) {
                CHECK.due("sum(" + round + ") of " + rounds, x.sum(round), sums[round]);
            }
            CHECK.duePlace("one more than " + rounds, () -> x.sum(rounds + 1));
        }
        x.run(2, 2, 20);
        CHECK.due("sum(20)", x.sum(20), 5);
        for (int round : new int[] {-1, 21, MIN, MAX}) {
            CHECK.duePlace("sum(" + round + ")", () -> x.sum(round));
        }
        CHECK.begin("promise 10: the least and the greatest sum");
        ColourLessen y = new ColourLessen(24, 24);
        y.run(0, 1, 0);
        CHECK.due("the least", y.sum(0), 0);
        y.given(0, 255, 255, 255, 255);
        y.run(2, 1, 0);
        CHECK.due("the greatest", y.sum(0), 576L * 260100);
        CHECK.begin("promise 10: the first one of two");
        y.clear();
        CHECK.dueState("no palette, and no round", () -> y.sum(-1));
    }

    private static void ditherKinds() {
        CHECK.begin("promise 11: there is no palette");
        ColourLessen x = Pictures.redsWith(new int[] {0, 255}, 2, 100, 100, 50, 153, 153, 50);
        CHECK.dueState("nothing was run", () -> x.dither(0));
        CHECK.begin("promise 11: the kind is not 0 .. 2");
        x.run(2, 2, 0);
        for (int kind : new int[] {-1, 3, MIN, MAX}) {
            CHECK.dueArgument("kind " + kind, () -> x.dither(kind));
        }
        CHECK.begin("promise 11: row by row");
        CHECK.due("others", x.dither(1), 1);
        CHECK.dueIndexes("three rows forward", x, 0, 1, 0, 1, 1, 0);
        CHECK.begin("promise 11: 2: every second row backward");
        CHECK.due("others", x.dither(2), 5);
        CHECK.dueIndexes("forward, backward, forward", x, 0, 1, 1, 0, 0, 1);
        CHECK.begin("promise 11: kind 0, the nearest ones");
        CHECK.due("others", x.dither(0), 0);
        CHECK.dueIndexes("the nearest ones", x, 0, 0, 0, 1, 1, 0);
        CHECK.begin("promise 11: samples have colours anew");
        CHECK.due("forward again", x.dither(1), 1);
        CHECK.due("and again", x.dither(1), 1);
        CHECK.due("backward again", x.dither(2), 5);
        CHECK.dueIndexes("as at the first time", x, 0, 1, 1, 0, 0, 1);
        CHECK.begin("promise 11: the first one of two");
        x.clear();
        CHECK.dueState("no palette, and no kind", () -> x.dither(3));
    }

    private static void ditherHalves() {
        CHECK.begin("promise 11: half of it, towards 0, to the next sample, the rest to that below");
        // 25 misses 20 by 5: 2 for the next one (15 is between), 3 for that below (16 is not).
        ColourLessen x = Pictures.redsWith(new int[] {10, 20}, 2, 25, 13, 13, 10);
        x.run(2, 2, 0);
        x.dither(1);
        CHECK.dueIndexes("5", x, 1, 0, 1);
        // 5 misses 10 by -5: -2 for the next one (16 is not between), -3 for that below (15 is).
        x = Pictures.redsWith(new int[] {10, 20}, 2, 5, 18, 18, 10);
        x.run(2, 2, 0);
        x.dither(1);
        CHECK.dueIndexes("-5", x, 0, 1, 0);
        x = Pictures.redsWith(new int[] {10, 12}, 2, 13, 11, 11, 11);
        x.run(2, 2, 0);
        CHECK.due("1, others", x.dither(1), 2);
        CHECK.dueIndexes("1: nothing for the next one", x, 1, 0, 1, 1);
        x = Pictures.redsWith(new int[] {12, 10}, 2, 9, 11, 11, 11);
        x.run(2, 2, 0);
        CHECK.due("-1, others", x.dither(1), 2);
        CHECK.dueIndexes("-1: nothing for the next one", x, 1, 0, 1, 1);
        x = Pictures.redsWith(new int[] {10, 12}, 2, 10, 11, 11, 12);
        x.run(2, 2, 0);
        CHECK.due("0, others", x.dither(1), 0);
        CHECK.dueIndexes("0: nothing goes on", x, 0, 0, 0, 1);
    }

    private static void ditherBeyond() {
        CHECK.begin("promise 11: what would go beyond the picture is lost, at the right");
        ColourLessen x = Pictures.redsWith(new int[] {0, 255}, 2, 0, 120, 70, 0);
        x.run(2, 2, 0);
        CHECK.due("others", x.dither(1), 0);
        CHECK.dueIndexes("the next row's first one gets nothing of it", x, 0, 0, 0, 0);
        x = Pictures.redsWith(new int[] {0, 255}, 2, 0, 120, 50, 60, 60, 0);
        x.run(2, 2, 0);
        CHECK.due("others", x.dither(2), 0);
        CHECK.dueIndexes("nor that below, but its own part", x, 0, 0, 0, 0, 0, 0);
        CHECK.begin("promise 11: what would go beyond the picture is lost, at the left");
        // Row 1 ends at the left with a miss of 120: 60 are lost, 60 go below, where 60 are.
        x = Pictures.redsWith(new int[] {0, 255}, 2, 0, 0, 120, 0, 60, 0);
        x.run(2, 2, 0);
        CHECK.due("others", x.dither(2), 0);
        CHECK.begin("promise 11: what would go beyond the picture is lost, below");
        x = Pictures.redsWith(new int[] {0, 255}, 2, 100, 0);
        x.run(2, 2, 0);
        CHECK.due("others, at first", x.dither(1), 0);
        CHECK.due("others, anew", x.dither(1), 0);
        CHECK.due("others, anew, the other kind", x.dither(2), 0);
        CHECK.begin("promise 11: one column, one row, one sample");
        for (int kind = 1; kind < 3; kind++) {
            x = Pictures.redsWith(new int[] {0, 255}, 1, 100, 80, 70);
            x.run(2, 2, 0);
            // 80 and 50 are 130; of -125 the half towards 0 is lost, -63 goes on.
            CHECK.due("one column, others", x.dither(kind), 1);
            CHECK.dueIndexes("one column", x, 0, 1, 0);
            x = Pictures.redsWith(new int[] {0, 255}, 3, 100, 80, 70);
            x.run(2, 2, 0);
            CHECK.due("one row, others", x.dither(kind), 1);
            CHECK.dueIndexes("one row", x, 0, 1, 0);
            x = Pictures.redsWith(new int[] {0, 255}, 1, 128);
            x.run(2, 2, 0);
            CHECK.due("one sample, others", x.dither(kind), 0);
            CHECK.dueIndexes("one sample", x, 1);
        }
    }

    private static void ditherBrought() {
        CHECK.begin("promise 11: the nearest colour to that, each channel brought to 0 .. 255; above");
        // The second one is to be (300, 60): brought to (255, 60) it is nearer to the second colour.
        ColourLessen x = Pictures.row(0xFFC80000, 0xFF3C0000);
        x.given(0, 255, 0, 0, 0);
        x.given(1, 200, 60, 0, 0);
        x.given(2, 165, 200, 0, 0);
        x.run(2, 3, 0);
        CHECK.due("others", x.dither(1), 0);
        CHECK.dueIndexes("300 counts as 255", x, 2, 1);
        CHECK.begin("promise 11: the nearest colour to that, each channel brought to 0 .. 255; below");
        // The same, turned round: (-45, 195) is brought to (0, 195).
        x = Pictures.row(0x00370000, 0x00C30000);
        x.given(0, 0, 255, 0, 0);
        x.given(1, 55, 195, 0, 0);
        x.given(2, 90, 55, 0, 0);
        x.run(2, 3, 0);
        CHECK.due("others", x.dither(1), 0);
        CHECK.dueIndexes("-45 counts as 0", x, 2, 1);
        CHECK.begin("promise 11: the difference (of what it was to be, not brought)");
        // 255 misses 200 by 55; then 282 by 82, of which 41 make 106 of 65; by 255 it were 92.
        x = Pictures.redsWith(new int[] {0, 200}, 3, 255, 255, 65);
        x.run(2, 2, 0);
        CHECK.due("others", x.dither(1), 1);
        CHECK.dueIndexes("above 255", x, 1, 1, 1);
        // 0 misses 55 by -55; then -27 by -82, of which -41 make 149 of 190; by 0 it were 163.
        x = Pictures.redsWith(new int[] {255, 55}, 3, 0, 0, 190);
        x.run(2, 2, 0);
        CHECK.due("others", x.dither(1), 1);
        CHECK.dueIndexes("below 0", x, 1, 1, 1);
        CHECK.begin("promise 11: the difference grows over the greatest picture");
        ColourLessen far = new ColourLessen(24, 24);
        far.paint(0, 0, 576, -1, 0);
        far.given(0, 0, 0, 0, 0);
        far.run(2, 1, 0);
        CHECK.due("one colour, forward", far.dither(1), 0);
        CHECK.due("one colour, backward", far.dither(2), 0);
        CHECK.due("all have it", far.count(0), 576);
    }

    private static void count() {
        CHECK.begin("promise 12: there is no palette");
        ColourLessen x = Pictures.redsWith(new int[] {0, 255}, 4, 100, 100, 100, 100);
        CHECK.dueState("nothing was run", () -> x.count(0));
        CHECK.begin("promise 12: no such place of the palette");
        x.run(2, 2, 0);
        for (int k : new int[] {-1, 2, 63, 64, MIN, MAX}) {
            CHECK.duePlace("count(" + k + ")", () -> x.count(k));
        }
        CHECK.begin("promise 12: how many samples have a colour (as index() tells)");
        CHECK.dueCounts("all, and none", x, 4, 0);
        x.dither(1);
        CHECK.dueCounts("by dither", x, 3, 1);
        CHECK.begin("promise 12: the first one of two");
        x.clear();
        CHECK.dueState("no palette, and no place", () -> x.count(2));
    }

    private static void exact() {
        CHECK.begin("promise 13: there is no palette");
        ColourLessen x = new ColourLessen(3, 2);
        CHECK.dueState("a new object", () -> x.exact() ? 1 : 0);
        CHECK.begin("promise 13: whether each sample's colour is that of the palette that it has");
        for (int channel = 0; channel < 4; channel++) {
            for (int place = 0; place < 6; place += 5) {
                ColourLessen y = new ColourLessen(3, 2);
                y.given(0, 0, 0, 0, 0);
                y.run(2, 1, 0);
                CHECK.due("each is", y.exact(), true);
                y.paint(place % 3, place / 3, 1, 1 << (8 * channel), 0);
                y.run(2, 1, 0);
                CHECK.due("sample " + place + " is not", y.exact(), false);
            }
        }
        CHECK.begin("promise 13: that it has by dither");
        ColourLessen z = Pictures.redsWith(new int[] {0, 105, 3}, 3, 0, 105, 3);
        z.run(2, 3, 0);
        z.dither(1);
        CHECK.due("nothing was missed", z.exact(), true);
        z = Pictures.redsWith(new int[] {0, 3}, 2, 105, 0);
        z.run(2, 2, 0);
        z.dither(1);
        CHECK.dueIndexes("the second one has another than its own", z, 1, 1);
        CHECK.due("not each", z.exact(), false);
    }

    private static void told() {
        CHECK.begin("promise 14: NONE for another what");
        ColourLessen x = new ColourLessen(3, 2);
        for (int what : new int[] {-1, 5, MIN, MAX}) {
            CHECK.due("told(" + what + ")", x.told(what), -1);
        }
        CHECK.begin("promise 14: width, height");
        CHECK.due("width", x.told(0), 3);
        CHECK.due("height", x.told(1), 2);
        CHECK.begin("promise 14: different colours, from one to as many as there are samples");
        CHECK.due("one", x.told(2), 1);
        for (int i = 0; i < 6; i++) {
            x.put(i % 3, i / 3, 0, 0, 0, 6 - i);
            CHECK.due(i + " of them black no more", x.told(2), i < 5 ? i + 2 : 6);
        }
        CHECK.due("the greatest picture", Pictures.fullOfColours().told(2), 576);
        CHECK.begin("promise 14: colours in the palette, 0 without one");
        CHECK.due("without one", x.told(3), 0);
        x.run(0, 5, 0);
        CHECK.due("5", x.told(3), 5);
        x.run(0, 64, 0);
        CHECK.due("6", x.told(3), 6);
        CHECK.due("the picture is as before", x.told(2), 6);
        x.clear();
        CHECK.due("gone", x.told(3), 0);
        CHECK.begin("promise 14: colours given");
        CHECK.due("none", x.told(4), 0);
        for (int k = 0; k < 64; k++) {
            x.given(k, 1, 1, 1, 1);
        }
        CHECK.due("64", x.told(4), 64);
    }

    private static void clear() {
        CHECK.begin("promise 15: all is as at first");
        int[][] sizes = {{1, 1}, {4, 3}, {0, 25}};
        for (int[] s : sizes) {
            ColourLessen fresh = new ColourLessen(s[0], s[1]);
            String first = Pictures.allOf(fresh);
            fresh.clear();
            CHECK.due("a new object", Pictures.allOf(fresh), first);
            ColourLessen used = new ColourLessen(s[0], s[1]);
            used.paint(0, 0, 576, 0x01020304, 11);
            used.given(63, 1, 2, 3, 4);
            used.run(1, 3, 20);
            used.dither(2);
            used.clear();
            CHECK.due("a used one", Pictures.allOf(used), first);
            CHECK.dueArgument("nothing is given", () -> used.run(2, 1, 0));
            CHECK.due("another colour than black", used.put(0, 0, 0, 0, 0, 1), true);
            used.clear();
            used.clear();
            CHECK.due("twice", Pictures.allOf(used), first);
        }
    }

    public static void main(String[] args) {
        CHECK.run(EdgesTest::newObject);
        CHECK.run(EdgesTest::put);
        CHECK.run(EdgesTest::paint);
        CHECK.run(EdgesTest::paintSteps);
        CHECK.run(EdgesTest::at);
        CHECK.run(EdgesTest::run);
        CHECK.run(EdgesTest::given);
        CHECK.run(EdgesTest::colour);
        CHECK.run(EdgesTest::index);
        CHECK.run(EdgesTest::nearest);
        CHECK.run(EdgesTest::sum);
        CHECK.run(EdgesTest::ditherKinds);
        CHECK.run(EdgesTest::ditherHalves);
        CHECK.run(EdgesTest::ditherBeyond);
        CHECK.run(EdgesTest::ditherBrought);
        CHECK.run(EdgesTest::count);
        CHECK.run(EdgesTest::exact);
        CHECK.run(EdgesTest::told);
        CHECK.run(EdgesTest::clear);
        CHECK.end();
    }
}
