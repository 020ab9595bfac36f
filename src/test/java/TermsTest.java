import java.util.Arrays;

/** The section 'Terms': a test of its own for each sentence, or part of one, that names a boundary case. */
public final class TermsTest {
    private static final Check CHECK = new Check();

    /** A colour with one number in one channel, another one in those before it, a third in those behind it. */
    private static int graded(int channel, int before, int here, int behind) {
        int all = 0;
        for (int c = 0; c < 4; c++) {
            all = (all << 8) | (c < channel ? before : c == channel ? here : behind);
        }
        return all;
    }

    /** A colour with numbers in two channels, 0 in the others. */
    private static int two(int channel, int here, int other, int there) {
        return (here << (24 - 8 * channel)) | (there << (24 - 8 * other));
    }

    private static void order() {
        for (int channel = 0; channel < 4; channel++) {
            CHECK.begin("Terms: colours are in order by their red, then green, blue, alpha; channel " + channel);
            ColourLessen x = Pictures.row(graded(channel, 9, 128, 0), graded(channel, 9, 127, 255));
            x.run(0, 2, 0);
            CHECK.dueIndexes("127 is before 128", x, 1, 0);
            x = Pictures.row(graded(channel, 9, 255, 0), graded(channel, 9, 0, 255));
            x.run(1, 2, 0);
            CHECK.dueIndexes("0 is before 255", x, 1, 0);
        }
    }

    private static void far() {
        CHECK.begin("Terms: how far, the sum of the squares of their channels' differences");
        for (int channel = 0; channel < 4; channel++) {
            ColourLessen x = Pictures.row(0, graded(channel, 0, 255, 0));
            x.given(0, 0, 0, 0, 0);
            x.run(2, 1, 0);
            CHECK.due("the greatest of one channel, upward", x.sum(0), 65025);
            x = Pictures.row(-1, -1 ^ graded(channel, 0, 255, 0));
            x.given(0, 255, 255, 255, 255);
            x.run(2, 1, 0);
            CHECK.due("the greatest of one channel, downward", x.sum(0), 65025);
        }
        ColourLessen x = Pictures.row(0);
        x.given(0, 255, 255, 255, 255);
        x.run(2, 1, 0);
        CHECK.due("the greatest of all", x.sum(0), 260100);
        x.given(0, 0, 0, 0, 0);
        x.run(2, 1, 0);
        CHECK.due("the least of all", x.sum(0), 0);
    }

    private static void mean() {
        CHECK.begin("Terms: the mean, twice the sum, and how many, divided by twice how many, downward");
        int[][] cases = {{1, 0, 1}, {0, 0, 0, 1}, {1, 0, 1, 1}, {0, 0, 0, 0, 1}, {1, 0, 0, 1, 1}, {255, 254, 255},
            {255, 254, 255, 255}, {254, 254, 254, 255}, {128, 0, 255}, {85, 0, 0, 255}, {7, 6, 6, 7, 8}};
        for (int[] c : cases) {
            int[] levels = Arrays.copyOfRange(c, 1, c.length);
            String what = Arrays.toString(levels);
            ColourLessen x = Pictures.reds(levels);
            x.run(0, 1, 0);
            CHECK.duePalette("a box, " + what, x, c[0]);
            x.run(1, 1, 0);
            CHECK.duePalette("a group, " + what, x, c[0]);
            x.given(0, 99, 0, 0, 0);
            x.run(2, 1, 1);
            CHECK.duePalette("a round, " + what, x, c[0]);
        }
        ColourLessen four = Pictures.row(0x000100FF, 0x010100FE);
        four.run(0, 1, 0);
        CHECK.dueTints("each channel by itself", four, 0x010100FF);
        ColourLessen full = new ColourLessen(24, 24);
        full.paint(0, 0, 288, -1, 0);
        full.run(0, 1, 0);
        CHECK.dueTints("all samples of the greatest picture", full, 0x80808080);
        full.paint(0, 0, 576, -1, 0);
        full.run(0, 1, 1);
        CHECK.dueTints("the greatest sum of all", full, -1);
    }

    /** The mean of a group is that of its samples, not of the means that were joined. */
    private static void meanOfSamples() {
        CHECK.begin("Terms: each group makes its samples' mean");
        ColourLessen x = Pictures.reds(0, 1, 3, 200);
        x.run(1, 2, 0);
        // 0 and 1 make 1 (of 0.5), and with 3 the samples' mean is 1 (of 1.33); of the means it is 2 (of 1.67).
        CHECK.duePalette("three samples, by two joins", x, 1, 200);
    }

    private static void atMost() {
        CHECK.begin("Terms: a palette has colours 0, 1, .., 64 at most");
        ColourLessen x = Pictures.fullOfColours();
        CHECK.due("all are different", x.told(2), 576);
        CHECK.due("boxes", x.run(0, 64, 1), 64);
        CHECK.due("the last one", Check.answerOf(() -> x.colour(63, 0)).startsWith("java"), false);
        CHECK.duePlace("one more", () -> x.colour(64, 0));
        for (int k = 0; k < 64; k++) {
            x.given(k, k, k, k, k);
        }
        CHECK.due("given", x.run(2, 64, 1), 64);
        CHECK.duePlace("one more than given", () -> x.count(64));
        ColourLessen y = new ColourLessen(8, 8);
        y.paint(0, 0, 64, 7, 3);
        CHECK.due("64 different colours", y.run(0, 64, 0), 64);
        CHECK.due("each its own", y.exact(), true);
        CHECK.due("63 of them", y.run(0, 63, 0), 63);
        CHECK.due("not each its own", y.exact(), false);
        ColourLessen z = new ColourLessen(5, 13);
        z.paint(0, 0, 65, 7, 3);
        CHECK.due("65 different colours", z.run(0, 64, 0), 64);
        CHECK.due("one is not its own", z.exact(), false);
    }

    private static void notMore() {
        for (int way = 0; way < 2; way++) {
            CHECK.begin("Terms: the different colours, if these are not more than are wanted; way " + way);
            ColourLessen x = Pictures.reds(50, 20, 20, 90, 0, 50, 50);
            CHECK.due("one more is wanted", x.run(way, 5, 0), 4);
            CHECK.duePalette("one more is wanted", x, 50, 20, 0, 90);
            CHECK.due("as many", x.run(way, 4, 0), 4);
            CHECK.duePalette("as many", x, 50, 20, 0, 90);
            CHECK.due("one less", x.run(way, 3, 0), 3);
            CHECK.due("one less is not each its own", x.exact(), false);
            ColourLessen black = new ColourLessen(24, 24);
            CHECK.due("a new picture has one", black.run(way, 64, 20), 1);
            CHECK.dueTints("a new picture has black", black, 0);
        }
    }

    private static void boxesWanted() {
        CHECK.begin("Terms, boxes: as long as there are less boxes than are wanted");
        ColourLessen x = Pictures.reds(0, 10, 200, 210);
        x.run(0, 1, 0);
        CHECK.duePalette("one: none is cut", x, 105);
        x.run(0, 2, 0);
        CHECK.duePalette("two: one cut", x, 5, 205);
        x.run(0, 3, 0);
        CHECK.duePalette("three: two cuts", x, 205, 0, 10);
    }

    private static void boxesChannel() {
        CHECK.begin("Terms, boxes: of equal spreads the first channel's");
        for (int c = 0; c < 4; c++) {
            for (int d = c + 1; d < 4; d++) {
                ColourLessen x = Pictures.row(two(c, 0, d, 100), two(c, 100, d, 0), two(c, 60, d, 90));
                x.run(0, 2, 0);
                CHECK.dueTints("channels " + c + " and " + d, x, two(c, 30, d, 95), two(c, 100, d, 0));
                x = Pictures.row(two(c, 0, d, 101), two(c, 100, d, 0), two(c, 60, d, 90));
                x.run(0, 2, 0);
                CHECK.dueTints("channel " + d + " is wider", x, two(c, 80, d, 45), two(c, 0, d, 101));
            }
        }
    }

    private static void boxesChoice() {
        CHECK.begin("Terms, boxes: that with the greatest spread");
        ColourLessen x = Pictures.reds(0, 0, 10, 100, 111);
        x.run(0, 3, 0);
        CHECK.duePalette("though it has less samples", x, 3, 100, 111);
        CHECK.begin("Terms, boxes: of these with the most samples");
        // Boxes 0, 1 and 2 have 0 and 10; 100 and twice 110; 50 and 60.
        x = Pictures.reds(0, 10, 50, 60, 100, 110, 110);
        x.run(0, 4, 0);
        CHECK.duePalette("samples, not colours, are counted", x, 5, 55, 110, 100);
        CHECK.begin("Terms, boxes: of these the least one");
        x = Pictures.reds(0, 10, 100, 110);
        x.run(0, 3, 0);
        CHECK.duePalette("the least one", x, 105, 0, 10);
    }

    private static void boxesHalf() {
        CHECK.begin("Terms, boxes: with half of its samples or more left");
        ColourLessen x = Pictures.reds(0, 0, 10, 20);
        x.run(0, 2, 0);
        CHECK.duePalette("the half is left", x, 0, 15);
        x = Pictures.reds(0, 0, 10, 20, 20);
        x.run(0, 2, 0);
        CHECK.duePalette("less than the half would be left", x, 3, 20);
        x = Pictures.reds(0, 0, 0, 10, 20);
        x.run(0, 2, 0);
        CHECK.duePalette("more than the half is left", x, 0, 15);
        CHECK.begin("Terms, boxes: at least one goes");
        x = Pictures.reds(9, 9, 9, 9, 9, 9, 0, 5);
        x.run(0, 2, 0);
        CHECK.duePalette("though it has most samples", x, 9, 3);
        CHECK.begin("Terms, boxes: one stays");
        x = Pictures.reds(0, 0, 0, 0, 0, 0, 5, 9);
        x.run(0, 2, 0);
        CHECK.duePalette("that with most samples", x, 0, 7);
        x = Pictures.reds(0, 5, 9, 9);
        x.run(0, 3, 0);
        CHECK.duePalette("of two in a box one goes, one stays", x, 9, 0, 5);
        CHECK.begin("Terms, boxes: its colours are in order by that channel, then as told");
        x = Pictures.row(0x05000000, 0x03000064, 0x09000064);
        x.run(0, 2, 0);
        CHECK.dueTints("equal alphas: by red", x, 0x09000064, 0x04000032);
        x = Pictures.row(0x80000064, 0x7F000064, 0x80000000);
        x.run(0, 2, 0);
        CHECK.dueTints("equal alphas: red 127 is before red 128", x, 0x80000064, 0x80000032);
    }

    private static void joiningForty() {
        CHECK.begin("Terms, joining: groups are the different colours, if they are not more than 40");
        ColourLessen x = new ColourLessen(20, 2);
        x.paint(0, 0, 40, 0, 5);
        // 5 goes, 205 comes: 10 and 15 are the first of the pairs that are nearest.
        x.paint(1, 0, 1, 0xCDCDCDCD, 0);
        x.run(1, 39, 0);
        CHECK.due("40: the first pair", x.colour(0, 0), 13);
        CHECK.begin("Terms, joining: if they are more than 40, those of the boxes if 40 were wanted");
        ColourLessen boxes = new ColourLessen(24, 2);
        boxes.paint(0, 0, 41, 0, 5);
        CHECK.due("41 different colours", boxes.told(2), 41);
        boxes.run(0, 40, 0);
        ColourLessen groups = new ColourLessen(24, 2);
        groups.paint(0, 0, 41, 0, 5);
        groups.run(1, 40, 0);
        CHECK.due("40 of 41", Pictures.allOf(groups), Pictures.allOf(boxes));
        CHECK.begin("Terms, joining: as long as they are more than are wanted");
        ColourLessen w = new ColourLessen(24, 2);
        w.paint(0, 0, 48, 0, 5);
        CHECK.due("all are wanted", w.run(1, 48, 0), 48);
        CHECK.due("47, but 40 boxes", w.run(1, 47, 0), 40);
        CHECK.due("41, but 40 boxes", w.run(1, 41, 0), 40);
        CHECK.due("40", w.run(1, 40, 0), 40);
        CHECK.due("39", w.run(1, 39, 0), 39);
        CHECK.due("2", w.run(1, 2, 0), 2);
        CHECK.due("1", w.run(1, 1, 0), 1);
        CHECK.due("all boxes may be cut", w.run(0, 47, 0), 47);
    }

    private static void joiningTies() {
        CHECK.begin("Terms, joining: divided by m + n, downward");
        // 1 * 1 * 9 / 2 and 1 * 1 * 8 / 2 are 4 both.
        ColourLessen x = Pictures.row(0x00000000, 0x03000000, 0x64000000, 0x66020000);
        x.run(1, 3, 0);
        CHECK.dueTints("4.5 counts as 4", x, 0x02000000, 0x64000000, 0x66020000);
        CHECK.begin("Terms, joining: of these that with the least lesser number");
        // Numbers 0 and 3 are as near as 1 and 2.
        x = Pictures.row(0x00000000, 0x05C80000, 0x05D20000, 0x0A000000);
        x.run(1, 3, 0);
        CHECK.dueTints("0 and 3, not 1 and 2", x, 0x05000000, 0x05C80000, 0x05D20000);
        x = Pictures.reds(126, 127, 128, 129);
        x.run(1, 3, 0);
        CHECK.duePalette("126 and 127, not 128 and 129", x, 127, 128, 129);
        CHECK.begin("Terms, joining: then the least greater number");
        x = Pictures.row(0x0A0A0000, 0x0A140000, 0x140A0000);
        x.run(1, 2, 0);
        CHECK.dueTints("0 and 1, not 0 and 2", x, 0x0A0F0000, 0x140A0000);
        CHECK.begin("Terms, joining: the one with the lesser number has both then");
        // 0 and 3 make (5, 0), which is to 1 (2 * 1 * 9 / 3) as 1 is to 2 (1 * 1 * 13 / 2): as number 0 it is first.
        x = Pictures.row(0x04000000, 0x05030000, 0x05030203, 0x06000000);
        x.run(1, 2, 0);
        CHECK.dueTints("its number is 0", x, 0x05010000, 0x05030203);
    }

    private static void givenWay() {
        CHECK.begin("Terms, given: as many as are wanted at most, in order of their places");
        ColourLessen x = Pictures.reds(0, 2, 3, 10);
        x.given(63, 200, 0, 0, 0);
        x.given(7, 3, 0, 0, 0);
        x.given(0, 2, 0, 0, 0);
        CHECK.due("one more is wanted", x.run(2, 4, 0), 3);
        CHECK.duePalette("one more is wanted", x, 2, 3, 200);
        CHECK.due("as many", x.run(2, 3, 0), 3);
        CHECK.duePalette("as many", x, 2, 3, 200);
        CHECK.due("one less", x.run(2, 2, 0), 2);
        CHECK.duePalette("one less", x, 2, 3);
        CHECK.due("one", x.run(2, 1, 0), 1);
        CHECK.duePalette("one", x, 2);
        CHECK.begin("Terms, given: that, too, if there are few different colours");
        ColourLessen y = Pictures.reds(5, 5);
        y.given(1, 7, 0, 0, 0);
        y.given(2, 6, 0, 0, 0);
        y.given(3, 7, 0, 0, 0);
        CHECK.due("three", y.run(2, 64, 0), 3);
        CHECK.duePalette("none of them is the picture's", y, 7, 6, 7);
        CHECK.due("one", y.run(2, 1, 0), 1);
        CHECK.duePalette("as many as are wanted", y, 7);
    }

    private static void rounds() {
        CHECK.begin("Terms, rounds: the nearest colour of the palette, of these the first");
        ColourLessen x = Pictures.redsWith(new int[] {10, 0}, 3, 5, 4, 6);
        x.run(2, 2, 0);
        CHECK.dueIndexes("between two", x, 0, 1, 0);
        x.run(2, 2, 1);
        CHECK.duePalette("between two, one round", x, 6, 4);
        CHECK.begin("Terms, rounds: each colour that has samples is the mean of these");
        ColourLessen y = Pictures.redsWith(new int[] {1, 200, 9, 1}, 3, 0, 4, 20);
        y.run(2, 4, 1);
        CHECK.duePalette("one without samples stays, and an equal one behind the first", y, 2, 200, 20, 1);
        CHECK.begin("Terms, rounds: so many times");
        ColourLessen z = Pictures.redsWith(new int[] {2, 3}, 4, 0, 2, 3, 10);
        z.run(2, 2, 0);
        CHECK.duePalette("no round", z, 2, 3);
        z.run(2, 2, 1);
        CHECK.duePalette("one", z, 1, 7);
        z.run(2, 2, 2);
        CHECK.duePalette("two", z, 2, 10);
        z.run(2, 2, 3);
        CHECK.duePalette("three: nothing more", z, 2, 10);
        CHECK.begin("Terms, rounds: the sum behind all rounds is that of what they would take then");
        z.run(2, 2, 1);
        CHECK.due("the round's", z.sum(0), 4 + 0 + 0 + 49);
        CHECK.due("that behind it", z.sum(1), 1 + 1 + 4 + 9);
        CHECK.dueIndexes("what they take then", z, 0, 0, 0, 1);
    }

    /** Twenty rounds are twenty times one round that begins with what the last one left. */
    private static void twentyRounds() {
        CHECK.begin("Terms, rounds: so many times, the most of all");
        ColourLessen once = new ColourLessen(24, 24);
        ColourLessen often = new ColourLessen(24, 24);
        once.paint(0, 0, 576, 0, 17);
        often.paint(0, 0, 576, 0, 17);
        for (int k = 0; k < 3; k++) {
            once.given(k, k, k, k, k);
            often.given(k, k, k, k, k);
        }
        once.run(2, 3, 20);
        for (int round = 0; round < 20; round++) {
            often.run(2, 3, 1);
            CHECK.due("sum(" + round + ")", once.sum(round), often.sum(0));
            for (int k = 0; k < 3; k++) {
                often.given(k, often.colour(k, 0), often.colour(k, 1), often.colour(k, 2), often.colour(k, 3));
            }
        }
        CHECK.due("sum(20)", once.sum(20), often.sum(1));
        CHECK.due("the last round still changes something", once.sum(19) != once.sum(20), true);
        for (int k = 0; k < 3; k++) {
            CHECK.due("colour " + k, Pictures.tintOf(once, k), Pictures.tintOf(often, k));
        }
    }

    private static void orderAtLast() {
        CHECK.begin("Terms, at last: not for way 2");
        ColourLessen x = Pictures.redsWith(new int[] {200, 100, 0}, 4, 0, 0, 100, 0);
        x.run(2, 3, 0);
        CHECK.duePalette("as given", x, 200, 100, 0);
        CHECK.dueCounts("as given", x, 0, 1, 3);
        CHECK.begin("Terms, at last: by how many samples take a colour, the most first");
        x.run(0, 3, 0);
        CHECK.duePalette("the most first", x, 0, 100);
        ColourLessen none = Pictures.row(0x1E000000, 0x1E140000, 0x28000000, 0x14140000);
        none.run(0, 3, 0);
        CHECK.dueTints("the last one has none", none, 0x14140000, 0x1E000000, 0x230A0000);
        CHECK.dueCounts("the last one has none", none, 2, 2, 0);
        none.run(0, 3, 1);
        CHECK.dueTints("nor by a round", none, 0x19140000, 0x23000000, 0x230A0000);
        CHECK.begin("Terms, at last: of these as colours are in order");
        ColourLessen y = Pictures.reds(200, 200, 100, 100, 7);
        y.run(0, 3, 0);
        CHECK.duePalette("equal ones in order", y, 100, 200, 7);
        CHECK.begin("Terms, at last: each sample takes the nearest colour of it anew, of these the first");
        ColourLessen z = Pictures.reds(0, 6, 9, 9, 9, 9, 9, 9);
        z.run(0, 2, 0);
        CHECK.duePalette("3 has 0 and 6 at first", z, 9, 3);
        CHECK.dueIndexes("6 is between, and 9 is the first now", z, 1, 0, 0);
        CHECK.dueCounts("6 is between, and 9 is the first now", z, 7, 1);
    }

    /** Of an object's 512 calls the last ones answer like the first. */
    private static void manyCalls() {
        CHECK.begin("What it is: an object is used for at most 512 calls");
        ColourLessen x = new ColourLessen(24, 24);
        x.paint(0, 0, 576, 0x01020304, 7);
        for (int i = 0; i < 509; i++) {
            x.run(i % 2, 1 + i % 64, 1);
        }
        CHECK.due("call 511", x.run(0, 5, 3), 5);
        ColourLessen fresh = new ColourLessen(24, 24);
        fresh.paint(0, 0, 576, 0x01020304, 7);
        fresh.run(0, 5, 3);
        CHECK.due("call 512", x.sum(3), fresh.sum(3));
    }

    public static void main(String[] args) {
        CHECK.run(TermsTest::order);
        CHECK.run(TermsTest::far);
        CHECK.run(TermsTest::mean);
        CHECK.run(TermsTest::meanOfSamples);
        CHECK.run(TermsTest::atMost);
        CHECK.run(TermsTest::notMore);
        CHECK.run(TermsTest::boxesWanted);
        CHECK.run(TermsTest::boxesChannel);
        CHECK.run(TermsTest::boxesChoice);
        CHECK.run(TermsTest::boxesHalf);
        CHECK.run(TermsTest::joiningForty);
        CHECK.run(TermsTest::joiningTies);
        CHECK.run(TermsTest::givenWay);
        CHECK.run(TermsTest::rounds);
        CHECK.run(TermsTest::twentyRounds);
        CHECK.run(TermsTest::orderAtLast);
        CHECK.run(TermsTest::manyCalls);
        CHECK.end();
    }
}
