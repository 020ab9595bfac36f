import java.util.LinkedHashMap;
import java.util.Map;

/** Terms: a call that throws changes nothing; each way in which a call can be refused by itself. */
public final class RefusalsTest {
    /** Makes a call that is to be refused. */
    private interface Refused {
        void call(ColourLessen x);
    }

    private static final int MAX = Integer.MAX_VALUE;
    private static final Check CHECK = new Check();
    private static final Map<String, Refused> ALWAYS = new LinkedHashMap<>();
    private static final Map<String, Refused> WITHOUT_PALETTE = new LinkedHashMap<>();
    private static final Map<String, Refused> WITH_PALETTE = new LinkedHashMap<>();

    private static void listAlways() {
        ALWAYS.put("promise 2: put at no place", x -> x.put(3, 0, 9, 9, 9, 9));
        ALWAYS.put("promise 2: put at no row", x -> x.put(0, -1, 9, 9, 9, 9));
        ALWAYS.put("promise 2: put, no red", x -> x.put(0, 0, 256, 9, 9, 9));
        ALWAYS.put("promise 2: put, no green", x -> x.put(0, 0, 9, -1, 9, 9));
        ALWAYS.put("promise 2: put, no blue", x -> x.put(0, 0, 9, 9, 256, 9));
        ALWAYS.put("promise 2: put, no alpha", x -> x.put(0, 0, 9, 9, 9, -1));
        ALWAYS.put("promise 3: paint at no place", x -> x.paint(-1, 1, 2, 0x09090909, 1));
        ALWAYS.put("promise 3: paint at no row", x -> x.paint(0, 2, 2, 0x09090909, 1));
        ALWAYS.put("promise 3: paint, below 0", x -> x.paint(0, 0, -1, 0x09090909, 1));
        ALWAYS.put("promise 4: at no place", x -> x.at(3, 0));
        ALWAYS.put("promise 5: run, no way", x -> x.run(3, 1, 1));
        ALWAYS.put("promise 5: run, below all ways", x -> x.run(-1, 1, 1));
        ALWAYS.put("promise 5: run, no colours", x -> x.run(0, 0, 1));
        ALWAYS.put("promise 5: run, too many colours", x -> x.run(1, 65, 1));
        ALWAYS.put("promise 5: run, rounds below 0", x -> x.run(0, 1, -1));
        ALWAYS.put("promise 5: run, too many rounds", x -> x.run(2, 1, 21));
        ALWAYS.put("promise 6: given for no place", x -> x.given(64, 9, 9, 9, 9));
        ALWAYS.put("promise 6: given for a place below 0", x -> x.given(-1, 9, 9, 9, 9));
        ALWAYS.put("promise 6: none for no place", x -> x.given(64, ColourLessen.NONE, 9, 9, 9));
        ALWAYS.put("promise 6: given, no red", x -> x.given(0, -2, 9, 9, 9));
        ALWAYS.put("promise 6: given, no green", x -> x.given(0, 9, 256, 9, 9));
        ALWAYS.put("promise 6: given, no blue", x -> x.given(1, 9, 9, MAX, 9));
        ALWAYS.put("promise 6: given, no alpha", x -> x.given(1, 9, 9, 9, -1));
    }

    private static void listByPalette() {
        WITHOUT_PALETTE.put("promise 7: colour", x -> x.colour(0, 0));
        WITHOUT_PALETTE.put("promise 8: index", x -> x.index(0, 0));
        WITHOUT_PALETTE.put("promise 9: nearest", x -> x.nearest(0, 0, 0, 0));
        WITHOUT_PALETTE.put("promise 10: sum", x -> x.sum(0));
        WITHOUT_PALETTE.put("promise 11: dither", x -> x.dither(1));
        WITHOUT_PALETTE.put("promise 12: count", x -> x.count(0));
        WITHOUT_PALETTE.put("promise 13: exact", x -> x.exact());
        WITH_PALETTE.put("promise 7: no colour", x -> x.colour(2, 0));
        WITH_PALETTE.put("promise 7: no channel", x -> x.colour(0, 4));
        WITH_PALETTE.put("promise 8: index at no place", x -> x.index(0, 2));
        WITH_PALETTE.put("promise 9: nearest to no colour", x -> x.nearest(0, 0, 0, 256));
        WITH_PALETTE.put("promise 10: no round", x -> x.sum(3));
        WITH_PALETTE.put("promise 11: no kind", x -> x.dither(3));
        WITH_PALETTE.put("promise 11: below all kinds", x -> x.dither(-1));
        WITH_PALETTE.put("promise 12: no colour to count", x -> x.count(2));
    }

    private static ColourLessen picture() {
        ColourLessen x = Pictures.redsWith(new int[] {0, 255}, 3, 0, 100, 110, 140, 120, 250);
        x.given(63, 7, 7, 7, 7);
        return x;
    }

    /** Some samples have others than the nearest colours, so that it shows if these come back. */
    private static ColourLessen dithered() {
        ColourLessen x = picture();
        x.run(2, 2, 2);
        CHECK.due("dither(2) of the picture changes something", x.dither(2) > 0, true);
        return x;
    }

    /** What is given shows only by a run, which comes last. */
    private static String allWithGiven(ColourLessen x) {
        String now = Pictures.allOf(x);
        x.run(2, 64, 0);
        return now + " / " + Pictures.allOf(x);
    }

    private static void dueUnchanged(String what, Refused refused, ColourLessen x, ColourLessen twin) {
        String answer = Check.answerOf(() -> {
            refused.call(x);
            return 0;
        });
        CHECK.due(what + " is refused", answer.startsWith("java"), true);
        CHECK.due(what + ", all behind it", allWithGiven(x), allWithGiven(twin));
    }

    private static void withoutPalette() {
        CHECK.begin("Terms: a call that throws changes nothing, without a palette");
        ALWAYS.forEach((what, refused) -> dueUnchanged(what, refused, picture(), picture()));
        WITHOUT_PALETTE.forEach((what, refused) -> dueUnchanged(what, refused, picture(), picture()));
    }

    private static void withPalette() {
        CHECK.begin("Terms: a call that throws changes nothing, with a palette");
        ALWAYS.forEach((what, refused) -> dueUnchanged(what, refused, dithered(), dithered()));
        WITH_PALETTE.forEach((what, refused) -> dueUnchanged(what, refused, dithered(), dithered()));
    }

    private static void nothingGiven() {
        CHECK.begin("Terms: a call that throws changes nothing, promise 5: way 2, and nothing was given");
        ColourLessen x = Pictures.reds(10, 20, 40);
        x.run(0, 2, 2);
        x.dither(1);
        String before = Pictures.allOf(x);
        CHECK.dueArgument("run(2, 1, 0)", () -> x.run(2, 1, 0));
        CHECK.due("all behind it", Pictures.allOf(x), before);
    }

    public static void main(String[] args) {
        listAlways();
        listByPalette();
        CHECK.run(RefusalsTest::withoutPalette);
        CHECK.run(RefusalsTest::withPalette);
        CHECK.run(RefusalsTest::nothingGiven);
        CHECK.end();
    }
}
