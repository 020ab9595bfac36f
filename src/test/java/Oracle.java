import java.util.ArrayList;
import java.util.Comparator;
import java.util.List;

/**
 * The document once more, in its own order and sample by sample, with no thought for speed or room:
 * the random runs compare ColourLessen with it.
 */
final class Oracle {
    final int width;
    final int height;
    private final int[][] picture;
    private final int[][] offered = new int[64][];
    private List<int[]> palette = null;
    private int[] has;
    private List<Long> sums;

    Oracle(int width, int height) {
        this.width = width < 1 ? 1 : width > 24 ? 24 : width;
        this.height = height < 1 ? 1 : height > 24 ? 24 : height;
        picture = new int[this.width * this.height][4];
    }

    private static int compare(int[] p, int[] q) {
        for (int c = 0; c < 4; c++) {
            if (p[c] != q[c]) {
                return p[c] < q[c] ? -1 : 1;
            }
        }
        return 0;
    }

    private static long far(int[] p, int[] q) {
        long all = 0;
        for (int c = 0; c < 4; c++) {
            all += (long) (p[c] - q[c]) * (p[c] - q[c]);
        }
        return all;
    }

    private static int[] mean(List<int[]> samples) {
        int[] answer = new int[4];
        for (int c = 0; c < 4; c++) {
            long all = 0;
            for (int[] s : samples) {
                all += s[c];
            }
            answer[c] = (int) Math.floorDiv(2 * all + samples.size(), 2L * samples.size());
        }
        return answer;
    }

    private List<int[]> different(List<int[]> samples) {
        List<int[]> answer = new ArrayList<>();
        for (int[] s : samples) {
            if (answer.stream().noneMatch(t -> compare(s, t) == 0)) {
                answer.add(s);
            }
        }
        answer.sort(Oracle::compare);
        return answer;
    }

    private static int nearestOf(List<int[]> colours, int[] p) {
        int best = 0;
        for (int k = 1; k < colours.size(); k++) {
            if (far(colours.get(k), p) < far(colours.get(best), p)) {
                best = k;
            }
        }
        return best;
    }

    private void place(int x, int y) {
        if (x < 0 || y < 0 || x >= width || y >= height) {
            throw new IndexOutOfBoundsException();
        }
    }

    private static void levels(int... channels) {
        for (int c : channels) {
            if (c < 0 || c > 255) {
                throw new IllegalArgumentException();
            }
        }
    }

    private void made() {
        if (palette == null) {
            throw new IllegalStateException();
        }
    }

    private static void range(int number, int above) {
        if (number < 0 || number >= above) {
            throw new IndexOutOfBoundsException();
        }
    }

    long put(int x, int y, int r, int g, int b, int a) {
        place(x, y);
        levels(r, g, b, a);
        int[] now = {r, g, b, a};
        boolean another = compare(picture[y * width + x], now) != 0;
        picture[y * width + x] = now;
        palette = null;
        return another ? 1 : 0;
    }

    long paint(int x, int y, int many, int colour, int step) {
        place(x, y);
        if (many < 0) {
            throw new IllegalArgumentException();
        }
        int done = 0;
        while (done < many && y * width + x + done < width * height) {
            int[] s = new int[4];
            for (int c = 0; c < 4; c++) {
                long first = Math.floorMod(Math.floorDiv((long) colour, 1L << (24 - 8 * c)), 256L);
                s[c] = (int) Math.floorMod(first + (long) done * step, 256L);
            }
            picture[y * width + x + done] = s;
            done++;
        }
        palette = null;
        return done;
    }

    long at(int x, int y) {
        place(x, y);
        int[] s = picture[y * width + x];
        return (int) (s[0] * 16777216L + s[1] * 65536L + s[2] * 256L + s[3]);
    }

    long run(int way, int colours, int rounds) {
        List<int[]> offers = new ArrayList<>();
        for (int[] o : offered) {
            if (o != null) {
                offers.add(o);
            }
        }
        if (way < 0 || way > 2 || colours < 1 || colours > 64 || rounds < 0 || rounds > 20
                || way == 2 && offers.isEmpty()) {
            throw new IllegalArgumentException();
        }
        List<int[]> samples = List.of(picture);
        if (way == 2) {
            palette = new ArrayList<>(offers.subList(0, Math.min(colours, offers.size())));
        } else if (different(samples).size() <= colours) {
            palette = different(samples);
        } else {
            palette = new ArrayList<>();
            for (List<int[]> part : way == 0 ? boxes(samples, colours) : joined(samples, colours)) {
                palette.add(mean(part));
            }
        }
        sums = new ArrayList<>();
        for (int round = 0; round < rounds; round++) {
            take();
            for (int k = 0; k < palette.size(); k++) {
                List<int[]> mine = takersOf(k);
                if (!mine.isEmpty()) {
                    palette.set(k, mean(mine));
                }
            }
        }
        take();
        if (way != 2) {
            order();
        }
        return palette.size();
    }

    private void take() {
        has = new int[picture.length];
        long all = 0;
        for (int i = 0; i < picture.length; i++) {
            has[i] = nearestOf(palette, picture[i]);
            all += far(picture[i], palette.get(has[i]));
        }
        sums.add(all);
    }

    private List<int[]> takersOf(int k) {
        List<int[]> mine = new ArrayList<>();
        for (int i = 0; i < picture.length; i++) {
            if (has[i] == k) {
                mine.add(picture[i]);
            }
        }
        return mine;
    }

    private void order() {
        List<int[]> numbered = new ArrayList<>();
        for (int k = 0; k < palette.size(); k++) {
            int[] p = palette.get(k);
            numbered.add(new int[] {p[0], p[1], p[2], p[3], takersOf(k).size()});
        }
        numbered.sort(Comparator.<int[]>comparingInt(p -> -p[4]).thenComparing(Oracle::compare));
        palette = new ArrayList<>();
        for (int[] p : numbered) {
            palette.add(new int[] {p[0], p[1], p[2], p[3]});
        }
        for (int i = 0; i < picture.length; i++) {
            has[i] = nearestOf(palette, picture[i]);
        }
    }

    private static int spreadIn(List<int[]> box, int c) {
        return box.stream().mapToInt(s -> s[c]).max().getAsInt() - box.stream().mapToInt(s -> s[c]).min().getAsInt();
    }

    private static int widest(List<int[]> box) {
        int best = 0;
        for (int c = 1; c < 4; c++) {
            if (spreadIn(box, c) > spreadIn(box, best)) {
                best = c;
            }
        }
        return best;
    }

    private List<List<int[]>> boxes(List<int[]> samples, int wanted) {
        List<List<int[]>> all = new ArrayList<>();
        all.add(samples);
        while (all.size() < wanted) {
            int pick = 0;
            for (int i = 1; i < all.size(); i++) {
                int mine = spreadIn(all.get(i), widest(all.get(i)));
                int best = spreadIn(all.get(pick), widest(all.get(pick)));
                if (mine > best || mine == best && all.get(i).size() > all.get(pick).size()) {
                    pick = i;
                }
            }
            List<int[]> box = all.get(pick);
            int c = widest(box);
            List<int[]> kinds = different(box);
            kinds.sort(Comparator.<int[]>comparingInt(s -> s[c]).thenComparing(Oracle::compare));
            int go = 1;
            for (int more = 2; more < kinds.size(); more++) {
                if (2 * samplesOf(box, kinds.subList(0, kinds.size() - more)).size() >= box.size()) {
                    go = more;
                }
            }
            all.set(pick, samplesOf(box, kinds.subList(0, kinds.size() - go)));
            all.add(samplesOf(box, kinds.subList(kinds.size() - go, kinds.size())));
        }
        return all;
    }

    private static List<int[]> samplesOf(List<int[]> box, List<int[]> kinds) {
        List<int[]> answer = new ArrayList<>();
        for (int[] s : box) {
            if (kinds.stream().anyMatch(k -> compare(k, s) == 0)) {
                answer.add(s);
            }
        }
        return answer;
    }

    private List<List<int[]>> joined(List<int[]> samples, int wanted) {
        List<int[]> kinds = different(samples);
        List<List<int[]>> groups = new ArrayList<>();
        if (kinds.size() > 40) {
            groups = boxes(samples, 40);
        } else {
            for (int[] k : kinds) {
                groups.add(samplesOf(samples, List.of(k)));
            }
        }
        while (groups.size() > wanted) {
            long least = Long.MAX_VALUE;
            int one = 0;
            int other = 0;
            for (int i = 0; i < groups.size(); i++) {
                for (int j = i + 1; j < groups.size(); j++) {
                    long m = groups.get(i).size();
                    long n = groups.get(j).size();
                    long cost = m * n * far(mean(groups.get(i)), mean(groups.get(j))) / (m + n);
                    if (cost < least) {
                        least = cost;
                        one = i;
                        other = j;
                    }
                }
            }
            List<int[]> both = new ArrayList<>(groups.get(one));
            both.addAll(groups.get(other));
            groups.set(one, both);
            groups.remove(other);
        }
        return groups;
    }

    long given(int k, int r, int g, int b, int a) {
        range(k, 64);
        if (r == -1) {
            offered[k] = null;
        } else {
            levels(r, g, b, a);
            offered[k] = new int[] {r, g, b, a};
        }
        return told(4);
    }

    long colour(int k, int channel) {
        made();
        range(k, palette.size());
        range(channel, 4);
        return palette.get(k)[channel];
    }

    long index(int x, int y) {
        made();
        place(x, y);
        return has[y * width + x];
    }

    long nearest(int r, int g, int b, int a) {
        made();
        levels(r, g, b, a);
        return nearestOf(palette, new int[] {r, g, b, a});
    }

    long sum(int round) {
        made();
        range(round, sums.size());
        return sums.get(round);
    }

    long dither(int kind) {
        made();
        if (kind < 0 || kind > 2) {
            throw new IllegalArgumentException();
        }
        int[][] come = new int[picture.length][4];
        int others = 0;
        for (int y = 0; y < height; y++) {
            int ahead = kind == 2 && y % 2 == 1 ? -1 : 1;
            for (int x = ahead == 1 ? 0 : width - 1; x >= 0 && x < width; x += ahead) {
                int i = y * width + x;
                int[] in = new int[4];
                for (int c = 0; c < 4; c++) {
                    int wish = picture[i][c] + come[i][c];
                    in[c] = wish < 0 ? 0 : wish > 255 ? 255 : wish;
                }
                has[i] = nearestOf(palette, kind == 0 ? picture[i] : in);
                others += has[i] == nearestOf(palette, picture[i]) ? 0 : 1;
                for (int c = 0; c < 4; c++) {
                    int miss = picture[i][c] + come[i][c] - palette.get(has[i])[c];
                    int half = miss < 0 ? -(-miss / 2) : miss / 2;
                    if (x + ahead >= 0 && x + ahead < width) {
                        come[i + ahead][c] += half;
                    }
                    if (y + 1 < height) {
                        come[i + width][c] += miss - half;
                    }
                }
            }
        }
        return others;
    }

    long count(int k) {
        made();
        range(k, palette.size());
        return takersOf(k).size();
    }

    long exact() {
        made();
        for (int i = 0; i < picture.length; i++) {
            if (compare(picture[i], palette.get(has[i])) != 0) {
                return 0;
            }
        }
        return 1;
    }

    long told(int what) {
        int offers = 0;
        for (int[] o : offered) {
            offers += o == null ? 0 : 1;
        }
        return what == 0 ? width : what == 1 ? height : what == 2 ? different(List.of(picture)).size()
                : what == 3 ? palette == null ? 0 : palette.size() : what == 4 ? offers : -1;
    }

    void clear() {
        for (int i = 0; i < picture.length; i++) {
            picture[i] = new int[4];
        }
        for (int k = 0; k < 64; k++) {
            offered[k] = null;
        }
        palette = null;
    }
}
