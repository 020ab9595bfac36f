/** Each promise of the document by itself: ordinary inputs, the edges that it names, and wrong inputs. */
public final class PromisesTest {
    private static final int MIN = Integer.MIN_VALUE;
    private static final int MAX = Integer.MAX_VALUE;
    private static final Check CHECK = new Check();

    private static void newObject() {
        CHECK.begin("promise 1, a new object");
        int[][] sizes = {{3, 2, 3, 2}, {1, 24, 1, 24}, {24, 1, 24, 1}, {0, 25, 1, 24}, {25, 0, 24, 1},
            {-1, -7, 1, 1}, {MIN, MAX, 1, 24}, {MAX, MIN, 24, 1}, {99, 99, 24, 24}};
        for (int[] s : sizes) {
            ColourLessen x = new ColourLessen(s[0], s[1]);
            CHECK.due("width", x.told(0), s[2]);
            CHECK.due("height", x.told(1), s[3]);
            CHECK.due("last sample", x.at(s[2] - 1, s[3] - 1), 0);
            CHECK.duePlace("beyond the width", () -> x.at(s[2], 0));
            CHECK.duePlace("beyond the height", () -> x.at(0, s[3]));
            CHECK.due("different colours", x.told(2), 1);
            CHECK.due("palette", x.told(3), 0);
            CHECK.due("given", x.told(4), 0);
        }
        CHECK.due("NONE", ColourLessen.NONE, -1);
    }

    private static void put() {
        CHECK.begin("promise 2, put");
        ColourLessen x = new ColourLessen(3, 2);
        CHECK.due("the same colour", x.put(2, 1, 0, 0, 0, 0), false);
        CHECK.due("another one", x.put(2, 1, 1, 2, 3, 4), true);
        CHECK.due("its own again", x.put(2, 1, 1, 2, 3, 4), false);
        CHECK.due("where it was put", x.at(2, 1), 0x01020304);
        CHECK.due("its neighbour", x.at(1, 1), 0);
        CHECK.due("another alpha", x.put(2, 1, 1, 2, 3, 255), true);
        CHECK.due("another red", x.put(2, 1, 255, 2, 3, 255), true);
        x.run(0, 2, 0);
        int[][] places = {{-1, 0}, {3, 0}, {0, -1}, {0, 2}, {MAX, MAX}, {MIN, MIN}, {MIN, 0}, {0, MAX}};
        for (int[] p : places) {
            CHECK.duePlace("no such place", () -> x.put(p[0], p[1], 0, 0, 0, 0) ? 1 : 0);
            CHECK.duePlace("no such place, the first of two", () -> x.put(p[0], p[1], -1, 256, 0, 0) ? 1 : 0);
        }
        for (int bad : new int[] {-1, 256, MIN, MAX}) {
            CHECK.dueArgument("red", () -> x.put(0, 0, bad, 0, 0, 0) ? 1 : 0);
            CHECK.dueArgument("green", () -> x.put(0, 0, 1, bad, 0, 0) ? 1 : 0);
            CHECK.dueArgument("blue", () -> x.put(0, 0, 1, 0, bad, 0) ? 1 : 0);
            CHECK.dueArgument("alpha", () -> x.put(0, 0, 1, 0, 0, bad) ? 1 : 0);
        }
        CHECK.due("nothing was put", x.at(0, 0), 0);
        CHECK.due("the palette stays behind what throws", x.told(3), 2);
        CHECK.due("the same colour once more", x.put(0, 0, 0, 0, 0, 0), false);
        CHECK.due("no palette even then", x.told(3), 0);
        CHECK.dueState("no palette for exact()", () -> x.exact() ? 1 : 0);
    }

    private static void paint() {
        CHECK.begin("promise 3, paint");
        ColourLessen x = new ColourLessen(3, 2);
        CHECK.due("over the row's end", x.paint(1, 0, 3, 0x00FE7F10, 1), 3);
        int[] want = {0, 0x00FE7F10, 0x01FF8011, 0x02008112, 0, 0};
        for (int i = 0; i < 6; i++) {
            CHECK.due("sample " + i, x.at(i % 3, i / 3), want[i]);
        }
        CHECK.due("as long as there are such", x.paint(1, 1, MAX, -1, -2), 2);
        CHECK.due("below 0 on its way", x.at(2, 1), 0xFDFDFDFD);
        x.paint(0, 0, 2, 0, -1);
        CHECK.due("the rest of a number below 0", x.at(1, 0), 0xFFFFFFFF);
        x.paint(0, 0, 6, 0x01020304, MAX);
        CHECK.due("the greatest step", x.at(1, 0), 0x00010203);
        CHECK.due("the greatest step, five times", x.at(2, 1), 0xFCFDFEFF);
        x.paint(0, 0, 6, 0x01020304, MIN);
        CHECK.due("the least step", x.at(2, 1), 0x01020304);
        x.paint(0, 0, 6, MIN, 256);
        CHECK.due("a step of 256", x.at(2, 1), MIN);
        x.run(0, 1, 0);
        int[][] places = {{-1, 0}, {3, 0}, {0, -1}, {0, 2}, {MAX, MAX}, {MIN, MIN}};
        for (int[] p : places) {
            CHECK.duePlace("no such place", () -> x.paint(p[0], p[1], 0, 0, 0));
            CHECK.duePlace("no such place, the first of two", () -> x.paint(p[0], p[1], -1, 0, 0));
        }
        CHECK.dueArgument("below 0", () -> x.paint(0, 0, -1, 7, 0));
        CHECK.dueArgument("far below 0", () -> x.paint(0, 0, MIN, 7, 0));
        CHECK.due("nothing was painted", x.at(0, 0), MIN);
        CHECK.due("the palette stays behind what throws", x.told(3), 1);
        CHECK.due("no samples", x.paint(2, 1, 0, 7, 7), 0);
        CHECK.due("none was painted", x.at(2, 1), MIN);
        CHECK.due("no palette even then", x.told(3), 0);
    }

    private static void at() {
        CHECK.begin("promise 4, at");
        ColourLessen x = new ColourLessen(2, 3);
        x.put(0, 0, 1, 0, 0, 0);
        x.put(1, 0, 0, 1, 0, 0);
        x.put(0, 1, 0, 0, 1, 0);
        x.put(1, 1, 0, 0, 0, 1);
        x.put(0, 2, 128, 0, 0, 0);
        x.put(1, 2, 255, 255, 255, 255);
        int[] want = {1 << 24, 1 << 16, 1 << 8, 1, MIN, -1};
        for (int i = 0; i < 6; i++) {
            CHECK.due("sample " + i, x.at(i % 2, i / 2), want[i]);
        }
        int[][] places = {{-1, 0}, {2, 0}, {0, -1}, {0, 3}, {MAX, 0}, {0, MAX}, {MIN, MIN}};
        for (int[] p : places) {
            CHECK.duePlace("no such place", () -> x.at(p[0], p[1]));
        }
    }

    private static void runWrong() {
        CHECK.begin("promise 5, run, wrong inputs");
        ColourLessen x = Pictures.reds(10, 20);
        x.run(0, 2, 1);
        int[][] wrong = {{-1, 1, 0}, {3, 1, 0}, {0, 0, 0}, {0, 65, 0}, {0, 1, -1}, {0, 1, 21}, {2, 1, 0},
            {MIN, MIN, MIN}, {MAX, MAX, MAX}, {1, -1, 0}, {1, 1, MIN}};
        for (int[] w : wrong) {
            CHECK.dueArgument("run(" + w[0] + ", " + w[1] + ", " + w[2] + ")", () -> x.run(w[0], w[1], w[2]));
        }
        CHECK.duePalette("the palette stays behind what throws", x, 10, 20);
        CHECK.due("and its rounds", x.sum(1), 0);
        x.given(5, 30, 0, 0, 0);
        CHECK.due("something was given", x.run(2, 1, 0), 1);
        x.given(5, ColourLessen.NONE, 0, 0, 0);
        CHECK.dueArgument("and is gone", () -> x.run(2, 1, 0));
        CHECK.due("the most of all", x.run(1, 64, 20), 2);
        CHECK.due("a round for each", x.sum(20), 0);
    }

    private static void runBoxes() {
        CHECK.begin("promise 5, run, boxes");
        ColourLessen x = Pictures.reds(255, 10, 200, 0);
        CHECK.due("answer", x.run(0, 2, 0), 2);
        CHECK.duePalette("halves", x, 5, 228);
        x.run(0, 3, 0);
        CHECK.duePalette("the greatest spread is cut", x, 5, 200, 255);
        x.run(0, 4, 0);
        CHECK.duePalette("not more than are wanted", x, 0, 10, 200, 255);
        x = Pictures.reds(0, 100, 0, 10, 110);
        x.run(0, 3, 0);
        CHECK.duePalette("equal spreads: the most samples", x, 0, 105, 10);
        x = Pictures.reds(0, 10, 100, 110);
        x.run(0, 3, 0);
        CHECK.duePalette("equal samples too: the least box", x, 105, 0, 10);
        x = Pictures.reds(9, 9, 9, 9, 9, 9, 0, 5);
        x.run(0, 2, 0);
        CHECK.duePalette("at least one goes", x, 9, 3);
        x = Pictures.reds(0, 0, 0, 0, 0, 0, 5, 9);
        x.run(0, 2, 0);
        CHECK.duePalette("at least one stays", x, 0, 7);
        x = new ColourLessen(3, 1);
        x.put(0, 0, 0, 100, 0, 0);
        x.put(1, 0, 100, 0, 0, 0);
        x.put(2, 0, 60, 90, 0, 0);
        x.run(0, 2, 0);
        CHECK.duePalette("equal channels: the first", x, 30, 100);
        CHECK.due("green", x.colour(0, 1), 95);
        x.put(0, 0, 5, 0, 0, 0);
        x.put(1, 0, 3, 0, 0, 100);
        x.put(2, 0, 9, 0, 0, 100);
        x.run(0, 2, 0);
        CHECK.duePalette("equal in the channel: as colours are in order", x, 9, 4);
        CHECK.due("alpha", x.colour(1, 3), 50);
    }

    private static void runJoining() {
        CHECK.begin("promise 5, run, joining");
        ColourLessen x = Pictures.reds(12, 1, 10, 0);
        CHECK.due("answer", x.run(1, 2, 0), 2);
        CHECK.duePalette("what is alike", x, 1, 11);
        x.run(1, 3, 0);
        CHECK.duePalette("one pair", x, 1, 10, 12);
        x.run(1, 4, 0);
        CHECK.duePalette("not more than are wanted", x, 0, 1, 10, 12);
        x = Pictures.reds(0, 1, 2);
        x.run(1, 2, 0);
        CHECK.duePalette("equal pairs: the least numbers", x, 1, 2);
        // 0 and 10 cost 3 * 1 * 100 / 4 = 75; 10 and 22 cost 1 * 1 * 144 / 2 = 72, though farther apart.
        x = Pictures.reds(0, 0, 0, 10, 22);
        x.run(1, 2, 0);
        CHECK.duePalette("by how many samples", x, 0, 16);
        x = new ColourLessen(24, 2);
        x.paint(0, 0, 48, 0, 5);
        CHECK.due("as many as there are", x.run(1, 48, 0), 48);
        CHECK.due("not more than 40 groups", x.run(1, 47, 0), 40);
        CHECK.due("40", x.run(1, 40, 0), 40);
        CHECK.due("39", x.run(1, 39, 0), 39);
        CHECK.due("1", x.run(1, 1, 0), 1);
        CHECK.due("boxes may be more", x.run(0, 47, 0), 47);
        x = new ColourLessen(20, 2);
        x.paint(0, 0, 40, 0, 5);
        CHECK.due("40 different colours", x.run(1, 39, 0), 39);
        CHECK.due("the first pair of all equal ones", x.count(0), 2);
        CHECK.due("its mean", x.colour(0, 0), 3);
        // 5 goes, 205 comes: then 10 and 15 are the first pair, numbers 1 and 2 (as boxes it is another).
        x.put(1, 0, 205, 205, 205, 205);
        x.run(1, 39, 0);
        CHECK.due("40 different colours, by their order", x.colour(0, 0), 13);
    }

    private static void runJoiningCosts() {
        CHECK.begin("promise 5, run, what joining costs");
        ColourLessen x = Pictures.reds(0, 10, 19, 29);
        x.run(1, 2, 0);
        CHECK.duePalette("by the means of what is joined", x, 19, 0);
        // 0 and 10 cost 9 * 1 * 100 / 10 = 90; 100 and 115 cost 1 * 1 * 225 / 2 = 112.
        x = Pictures.reds(0, 0, 0, 0, 0, 0, 0, 0, 0, 10, 100, 115);
        x.run(1, 3, 0);
        CHECK.duePalette("divided by both", x, 1, 100, 115);
        // Black and white cost 250 * 250 * 260100 / 500, whose product is beyond an int.
        x = new ColourLessen(24, 24);
        x.paint(0, 0, 250, -1, 0);
        x.paint(0, 20, 76, 0x7F7F7F7F, 0);
        CHECK.due("three", x.told(2), 3);
        x.run(1, 2, 0);
        CHECK.duePalette("more than an int holds", x, 30, 255);
    }

    private static void runGiven() {
        CHECK.begin("promise 5, run, given");
        ColourLessen x = Pictures.reds(0, 2, 3, 10);
        x.given(63, 200, 0, 0, 0);
        x.given(7, 3, 0, 0, 0);
        x.given(2, 2, 0, 0, 0);
        CHECK.due("at most", x.run(2, 64, 0), 3);
        CHECK.duePalette("by their places, not put in order", x, 2, 3, 200);
        x.run(2, 2, 0);
        CHECK.duePalette("as many as are wanted", x, 2, 3);
        CHECK.due("few different colours", Pictures.reds(5).run(0, 9, 0), 1);
        x.run(2, 3, 2);
        CHECK.duePalette("means; but what has no samples stays", x, 2, 10, 200);
        CHECK.dueCounts("three and one", x, 3, 1, 0);
        x.given(2, 250, 0, 0, 0);
        x.given(3, 250, 0, 0, 0);
        x.run(2, 3, 0);
        CHECK.duePalette("equal ones stay", x, 250, 250, 3);
        CHECK.dueCounts("the first of equal ones", x, 0, 0, 4);
    }

    private static void runOrder() {
        CHECK.begin("promise 5, run, the order at last");
        ColourLessen x = Pictures.reds(0, 6, 9, 9, 9, 9, 9, 9);
        x.run(0, 2, 0);
        CHECK.duePalette("the most first", x, 9, 3);
        CHECK.dueIndexes("what is between takes the first anew", x, 1, 0, 0, 0, 0, 0, 0, 0);
        x = Pictures.reds(200, 200, 100, 100, 7);
        x.run(0, 3, 0);
        CHECK.duePalette("the most first, then in order", x, 100, 200, 7);
        x = new ColourLessen(2, 1);
        x.paint(0, 0, 1, 0x80000000, 0);
        x.paint(1, 0, 1, 0x7FFFFFFF, 0);
        x.run(0, 2, 0);
        CHECK.duePalette("red 127 is before red 128", x, 127, 128);
        x = new ColourLessen(4, 1);
        x.put(0, 0, 1, 2, 3, 5);
        x.put(1, 0, 1, 2, 3, 4);
        x.put(2, 0, 1, 2, 2, 9);
        x.put(3, 0, 1, 1, 9, 9);
        x.run(1, 4, 0);
        CHECK.dueIndexes("red, green, blue, alpha", x, 3, 2, 1, 0);
    }

    private static void given() {
        CHECK.begin("promise 6, given");
        ColourLessen x = Pictures.reds(1, 2, 3);
        x.run(0, 3, 0);
        CHECK.due("the first", x.given(0, 1, 2, 3, 4), 1);
        CHECK.due("the last place", x.given(63, 255, 255, 255, 255), 2);
        CHECK.due("the same place", x.given(0, 9, 9, 9, 9), 2);
        CHECK.due("told", x.told(4), 2);
        CHECK.due("none where none was", x.given(5, ColourLessen.NONE, 0, 0, 0), 2);
        CHECK.due("none; the other channels are not looked at", x.given(5, ColourLessen.NONE, -1, 256, MAX), 2);
        CHECK.duePalette("the palette stays", x, 1, 2, 3);
        for (int k : new int[] {-1, 64, MIN, MAX}) {
            CHECK.duePlace("no such place", () -> x.given(k, 0, 0, 0, 0));
            CHECK.duePlace("no such place, none", () -> x.given(k, -1, 0, 0, 0));
            CHECK.duePlace("no such place, the first of two", () -> x.given(k, 256, 0, 0, 0));
        }
        for (int bad : new int[] {-1, 256, MIN, MAX}) {
            CHECK.dueArgument("green", () -> x.given(0, 0, bad, 0, 0));
            CHECK.dueArgument("blue", () -> x.given(0, 0, 0, bad, 0));
            CHECK.dueArgument("alpha", () -> x.given(1, 0, 0, 0, bad));
        }
        for (int bad : new int[] {-2, 256, MIN, MAX}) {
            CHECK.dueArgument("red", () -> x.given(1, bad, 0, 0, 0));
        }
        CHECK.due("as before", x.told(4), 2);
        x.run(2, 64, 0);
        CHECK.duePalette("what was given last", x, 9, 255);
        CHECK.due("none", x.given(0, ColourLessen.NONE, 0, 0, 0), 1);
        CHECK.duePalette("the palette stays then", x, 9, 255);
        x.run(2, 64, 0);
        CHECK.duePalette("what is left", x, 255);
    }

    private static void colour() {
        CHECK.begin("promise 7, colour");
        ColourLessen x = new ColourLessen(1, 2);
        CHECK.dueState("no palette", () -> x.colour(0, 0));
        CHECK.dueState("no palette, the first of two", () -> x.colour(-1, 9));
        x.put(0, 0, 11, 22, 33, 44);
        x.put(0, 1, 255, 254, 253, 252);
        x.run(0, 2, 0);
        int[][] want = {{11, 22, 33, 44}, {255, 254, 253, 252}};
        for (int k = 0; k < 2; k++) {
            for (int c = 0; c < 4; c++) {
                CHECK.due("colour(" + k + ", " + c + ")", x.colour(k, c), want[k][c]);
            }
        }
        int[][] wrong = {{-1, 0}, {2, 0}, {0, -1}, {0, 4}, {MIN, 0}, {MAX, 0}, {0, MIN}, {0, MAX}, {63, 0}};
        for (int[] w : wrong) {
            CHECK.duePlace("colour(" + w[0] + ", " + w[1] + ")", () -> x.colour(w[0], w[1]));
        }
    }

    private static void index() {
        CHECK.begin("promise 8, index");
        ColourLessen x = new ColourLessen(3, 2);
        CHECK.dueState("no palette", () -> x.index(0, 0));
        CHECK.dueState("no palette, the first of two", () -> x.index(-1, 9));
        x.put(1, 0, 9, 0, 0, 0);
        x.put(0, 1, 9, 0, 0, 0);
        x.put(2, 1, 5, 0, 0, 0);
        x.run(1, 3, 0);
        CHECK.dueIndexes("places", x, 0, 1, 0, 1, 0, 2);
        int[][] places = {{-1, 0}, {3, 0}, {0, -1}, {0, 2}, {MAX, MAX}, {MIN, MIN}};
        for (int[] p : places) {
            CHECK.duePlace("no such place", () -> x.index(p[0], p[1]));
        }
        ColourLessen y = Pictures.reds(100, 100, 100, 100);
        y.given(0, 0, 0, 0, 0);
        y.given(1, 255, 0, 0, 0);
        y.run(2, 2, 0);
        CHECK.dueIndexes("nearest", y, 0, 0, 0, 0);
        y.dither(1);
        CHECK.dueIndexes("by dither", y, 0, 1, 0, 0);
    }

    private static void nearest() {
        CHECK.begin("promise 9, nearest");
        ColourLessen x = Pictures.reds(0, 10, 10);
        CHECK.dueState("no palette", () -> x.nearest(0, 0, 0, 0));
        CHECK.dueState("no palette, the first of two", () -> x.nearest(-1, 0, 0, 0));
        x.run(0, 2, 0);
        CHECK.due("near the first", x.nearest(9, 0, 0, 0), 0);
        CHECK.due("near the second", x.nearest(4, 0, 0, 0), 1);
        CHECK.due("between: the first", x.nearest(5, 0, 0, 0), 0);
        CHECK.due("far off", x.nearest(255, 255, 255, 255), 0);
        for (int bad : new int[] {-1, 256, MIN, MAX}) {
            CHECK.dueArgument("red", () -> x.nearest(bad, 0, 0, 0));
            CHECK.dueArgument("green", () -> x.nearest(0, bad, 0, 0));
            CHECK.dueArgument("blue", () -> x.nearest(0, 0, bad, 0));
            CHECK.dueArgument("alpha", () -> x.nearest(0, 0, 0, bad));
        }
        ColourLessen y = new ColourLessen(1, 1);
        for (int c = 0; c < 4; c++) {
            y.given(c, c == 0 ? 100 : 0, c == 1 ? 100 : 0, c == 2 ? 100 : 0, c == 3 ? 100 : 0);
        }
        y.run(2, 4, 0);
        CHECK.due("by red", y.nearest(51, 50, 50, 50), 0);
        CHECK.due("by green", y.nearest(50, 51, 50, 50), 1);
        CHECK.due("by blue", y.nearest(50, 50, 51, 50), 2);
        CHECK.due("by alpha", y.nearest(50, 50, 50, 51), 3);
        CHECK.due("all as far: the first", y.nearest(50, 50, 50, 50), 0);
        CHECK.due("by squares", y.nearest(99, 100, 0, 0), 1);
    }

    private static void sum() {
        CHECK.begin("promise 10, sum");
        ColourLessen x = Pictures.reds(0, 2, 3, 10);
        CHECK.dueState("no palette", () -> x.sum(0));
        CHECK.dueState("no palette, the first of two", () -> x.sum(-1));
        x.given(0, 2, 0, 0, 0);
        x.given(1, 3, 0, 0, 0);
        x.run(2, 2, 2);
        CHECK.due("the first round's", x.sum(0), 53);
        CHECK.due("the second round's", x.sum(1), 15);
        CHECK.due("that behind all", x.sum(2), 5);
        for (int round : new int[] {-1, 3, 20, MIN, MAX}) {
            CHECK.duePlace("no such round", () -> x.sum(round));
        }
        x.run(2, 2, 20);
        CHECK.due("the last of many", x.sum(20), 5);
        CHECK.due("one of many", x.sum(7), 5);
        x.run(2, 1, 0);
        CHECK.due("no round", x.sum(0), 4 + 0 + 1 + 64);
        CHECK.duePlace("no round any more", () -> x.sum(1));
        x.dither(1);
        CHECK.due("dither does not change it", x.sum(0), 69);
        ColourLessen y = new ColourLessen(24, 24);
        y.given(0, 255, 255, 255, 255);
        y.run(2, 1, 0);
        CHECK.due("the greatest of all", y.sum(0), 576L * 4 * 65025);
    }

    private static void dither() {
        CHECK.begin("promise 11, dither");
        ColourLessen x = new ColourLessen(2, 2);
        CHECK.dueState("no palette", () -> x.dither(0));
        CHECK.dueState("no palette, the first of two", () -> x.dither(3));
        x.put(0, 0, 100, 0, 0, 0);
        x.put(1, 0, 100, 0, 0, 0);
        x.put(0, 1, 70, 0, 0, 0);
        x.put(1, 1, 170, 0, 0, 0);
        x.given(0, 0, 0, 0, 0);
        x.given(1, 255, 0, 0, 0);
        x.run(2, 2, 0);
        CHECK.dueIndexes("nearest", x, 0, 0, 0, 1);
        CHECK.due("forward", x.dither(1), 1);
        CHECK.dueIndexes("forward", x, 0, 1, 0, 1);
        CHECK.due("every second row backward", x.dither(2), 3);
        CHECK.dueIndexes("every second row backward", x, 0, 1, 1, 0);
        for (int kind : new int[] {-1, 3, MIN, MAX}) {
            CHECK.dueArgument("no such kind", () -> x.dither(kind));
        }
        CHECK.dueIndexes("nothing is changed by what throws", x, 0, 1, 1, 0);
        CHECK.due("the nearest ones", x.dither(0), 0);
        CHECK.dueIndexes("the nearest ones", x, 0, 0, 0, 1);

        ColourLessen y = Pictures.reds(255, 255, 65);
        y.given(0, 0, 0, 0, 0);
        y.given(1, 200, 0, 0, 0);
        y.run(2, 2, 0);
        CHECK.due("what goes on is not brought to 255", y.dither(1), 1);
        CHECK.dueIndexes("what goes on is not brought to 255", y, 1, 1, 1);

        ColourLessen z = new ColourLessen(2, 1);
        z.put(0, 0, 0, 255, 0, 0);
        z.put(1, 0, 0, 60, 0, 0);
        z.given(0, 0, 0, 0, 0);
        z.given(1, 50, 60, 0, 0);
        z.given(2, 200, 255, 0, 0);
        z.run(2, 3, 0);
        CHECK.due("what is looked for is brought to 0", z.dither(2), 0);
        CHECK.dueIndexes("what is looked for is brought to 0", z, 2, 1);
        ditherHalves();
    }

    /** An odd difference of -5: -2 goes to the next one, -3 to that below. */
    private static void ditherHalves() {
        ColourLessen x = new ColourLessen(2, 2);
        x.given(0, 10, 0, 0, 0);
        x.given(1, 20, 0, 0, 0);
        x.given(2, 0, 0, 0, 200);
        x.put(0, 0, 5, 0, 0, 0);
        x.put(1, 0, 18, 0, 0, 0);
        x.put(0, 1, 18, 0, 0, 0);
        x.put(1, 1, 0, 0, 0, 200);
        x.run(2, 3, 0);
        CHECK.dueIndexes("before", x, 0, 1, 1, 2);
        CHECK.due("halves", x.dither(1), 1);
        CHECK.dueIndexes("16 is above the middle, 15 takes the first", x, 0, 1, 0, 2);
    }

    private static void count() {
        CHECK.begin("promise 12, count");
        ColourLessen x = Pictures.reds(100, 100, 100, 100);
        CHECK.dueState("no palette", () -> x.count(0));
        CHECK.dueState("no palette, the first of two", () -> x.count(-1));
        x.given(0, 0, 0, 0, 0);
        x.given(1, 255, 0, 0, 0);
        x.run(2, 2, 0);
        CHECK.dueCounts("nearest", x, 4, 0);
        x.dither(1);
        CHECK.dueCounts("by dither", x, 3, 1);
        x.dither(0);
        CHECK.dueCounts("nearest again", x, 4, 0);
        for (int k : new int[] {-1, 2, 64, MIN, MAX}) {
            CHECK.duePlace("no such colour", () -> x.count(k));
        }
    }

    private static void exact() {
        CHECK.begin("promise 13, exact");
        ColourLessen x = Pictures.reds(0, 100, 255);
        CHECK.dueState("no palette", () -> x.exact() ? 1 : 0);
        x.run(0, 3, 0);
        CHECK.due("all colours", x.exact(), true);
        x.run(0, 2, 0);
        CHECK.due("fewer", x.exact(), false);
        // What goes on from 0 and 100 is nothing as long as each has its own colour.
        x.run(1, 3, 5);
        x.dither(2);
        CHECK.due("by dither", x.exact(), true);
        ColourLessen y = Pictures.reds(0, 0, 0, 1);
        y.given(0, 0, 0, 0, 0);
        y.run(2, 1, 0);
        CHECK.due("the last one alone is another", y.exact(), false);
        y.put(3, 0, 0, 0, 0, 1);
        y.run(2, 1, 0);
        CHECK.due("by its alpha alone", y.exact(), false);
        y.put(3, 0, 0, 0, 0, 0);
        y.run(2, 1, 0);
        CHECK.due("as given", y.exact(), true);
        ditherMakesInexact();
    }

    private static void ditherMakesInexact() {
        ColourLessen y = Pictures.reds(105, 0);
        y.given(0, 0, 0, 0, 0);
        y.given(1, 3, 0, 0, 0);
        y.run(2, 2, 0);
        CHECK.due("the second is as it was", y.index(1, 0), 0);
        y.dither(1);
        CHECK.due("it has another one by dither", y.index(1, 0), 1);
        CHECK.due("which is not its own", y.exact(), false);
    }

    private static void told() {
        CHECK.begin("promise 14, told");
        ColourLessen x = new ColourLessen(5, 7);
        CHECK.due("width", x.told(0), 5);
        CHECK.due("height", x.told(1), 7);
        CHECK.due("different colours", x.told(2), 1);
        x.put(0, 0, 0, 0, 0, 1);
        x.put(1, 0, 255, 0, 0, 0);
        CHECK.due("different colours, three", x.told(2), 3);
        x.put(2, 0, 255, 0, 0, 0);
        CHECK.due("an equal one", x.told(2), 3);
        x.paint(0, 0, 35, 0, 1);
        CHECK.due("all of them", x.told(2), 35);
        CHECK.due("no palette", x.told(3), 0);
        x.run(0, 6, 0);
        CHECK.due("palette", x.told(3), 6);
        CHECK.due("different colours behind a run", x.told(2), 35);
        x.given(9, 0, 0, 0, 0);
        CHECK.due("given", x.told(4), 1);
        for (int what : new int[] {-1, 5, 6, MIN, MAX}) {
            CHECK.due("told(" + what + ")", x.told(what), ColourLessen.NONE);
        }
    }

    private static void clear() {
        CHECK.begin("promise 15, clear");
        ColourLessen x = new ColourLessen(4, 3);
        x.paint(0, 0, 12, 0x01020304, 11);
        x.given(3, 1, 2, 3, 4);
        x.run(0, 3, 2);
        x.clear();
        CHECK.due("width", x.told(0), 4);
        CHECK.due("height", x.told(1), 3);
        CHECK.due("different colours", x.told(2), 1);
        CHECK.due("palette", x.told(3), 0);
        CHECK.due("given", x.told(4), 0);
        for (int i = 0; i < 12; i++) {
            CHECK.due("sample " + i, x.at(i % 4, i / 4), 0);
        }
        CHECK.dueState("index", () -> x.index(0, 0));
        CHECK.dueState("sum", () -> x.sum(0));
        CHECK.dueArgument("nothing was given", () -> x.run(2, 1, 0));
        CHECK.due("given anew", x.given(3, 5, 5, 5, 5), 1);
        CHECK.due("run anew", x.run(2, 9, 0), 1);
        CHECK.due("far", x.sum(0), 12 * 100);
        x.clear();
        x.clear();
        CHECK.due("twice", x.told(4), 0);
    }

    public static void main(String[] args) {
        CHECK.run(PromisesTest::newObject);
        CHECK.run(PromisesTest::put);
        CHECK.run(PromisesTest::paint);
        CHECK.run(PromisesTest::at);
        CHECK.run(PromisesTest::runWrong);
        CHECK.run(PromisesTest::runBoxes);
        CHECK.run(PromisesTest::runJoining);
        CHECK.run(PromisesTest::runJoiningCosts);
        CHECK.run(PromisesTest::runGiven);
        CHECK.run(PromisesTest::runOrder);
        CHECK.run(PromisesTest::given);
        CHECK.run(PromisesTest::colour);
        CHECK.run(PromisesTest::index);
        CHECK.run(PromisesTest::nearest);
        CHECK.run(PromisesTest::sum);
        CHECK.run(PromisesTest::dither);
        CHECK.run(PromisesTest::count);
        CHECK.run(PromisesTest::exact);
        CHECK.run(PromisesTest::told);
        CHECK.run(PromisesTest::clear);
        CHECK.end();
    }
}
