/** Pictures that several tests begin with, and all that an object tells, as one text. */
final class Pictures {
    private Pictures() {
    }

    /** A picture of one row whose samples have these reds, and nothing else. */
    static ColourLessen reds(int... levels) {
        ColourLessen x = new ColourLessen(levels.length, 1);
        for (int i = 0; i < levels.length; i++) {
            x.put(i, 0, levels[i], 0, 0, 0);
        }
        return x;
    }

    /** A picture of a width, row by row, whose samples have these reds, with these reds given. */
    static ColourLessen redsWith(int[] offered, int width, int... levels) {
        ColourLessen x = new ColourLessen(width, levels.length / width);
        for (int i = 0; i < levels.length; i++) {
            x.put(i % width, i / width, levels[i], 0, 0, 0);
        }
        for (int k = 0; k < offered.length; k++) {
            x.given(k, offered[k], 0, 0, 0);
        }
        return x;
    }

    /** A picture of one row with these colours, as at() tells them. */
    static ColourLessen row(int... tints) {
        ColourLessen x = new ColourLessen(tints.length, 1);
        for (int i = 0; i < tints.length; i++) {
            x.paint(i, 0, 1, tints[i], 0);
        }
        return x;
    }

    /** The greatest picture, and all of its 576 colours are different. */
    static ColourLessen fullOfColours() {
        ColourLessen x = new ColourLessen(24, 24);
        x.paint(0, 0, 256, 0x00000000, 1);
        x.paint(16, 10, 256, 0x00000001, 1);
        x.paint(8, 21, 64, 0x00000100, 1);
        return x;
    }

    /** What all calls that only tell answer; a call that throws is told by its exception's name. */
    static String allOf(ColourLessen x) {
        int width = x.told(0);
        int height = x.told(1);
        int colours = x.told(3);
        StringBuilder all = new StringBuilder();
        all.append(width).append(' ').append(height).append(' ').append(x.told(2)).append(' ')
                .append(colours).append(' ').append(x.told(4)).append(' ');
        for (int i = 0; i < width * height; i++) {
            int column = i % width;
            int row = i / width;
            all.append(Integer.toHexString(x.at(column, row))).append(':')
                    .append(Check.answerOf(() -> x.index(column, row))).append(' ');
        }
        for (int i = 0; i < colours; i++) {
            int k = i;
            all.append(Integer.toHexString(tintOf(x, k))).append(':')
                    .append(Check.answerOf(() -> x.count(k))).append(' ');
        }
        return all.append(sumsOf(x)).append(Check.answerOf(() -> x.exact() ? 1 : 0)).toString();
    }

    /** A colour of the palette, as at() would tell it. */
    static int tintOf(ColourLessen x, int k) {
        return (x.colour(k, 0) << 24) | (x.colour(k, 1) << 16) | (x.colour(k, 2) << 8) | x.colour(k, 3);
    }

    private static String sumsOf(ColourLessen x) {
        StringBuilder sums = new StringBuilder();
        for (int i = 0; i < 22; i++) {
            int round = i;
            String sum = Check.answerOf(() -> x.sum(round));
            sums.append(sum).append(' ');
            if (sum.startsWith("java")) {
                break;
            }
        }
        return sums.toString();
    }
}
