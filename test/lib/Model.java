import java.util.ArrayList;
import java.util.Arrays;
import java.util.List;
import java.util.regex.Matcher;
import java.util.regex.Pattern;

/** The document's words, without any short cut. */
final class Model {
    static final int BAD = -1, NO = -2, FULL = -3, NONE = -4;
    String text = "";
    int faultAt = NONE;
    List<int[]> toldBins, toldWalls, toldCorn;
    int toldKind, toldRats, toldV;
    List<int[]> bins, walls, corn, gaps;
    int kind, rats, v, night;
    int[] pecks;
    final List<int[]> keptPecks = new ArrayList<>();
    final List<Integer> keptNight = new ArrayList<>();
    static final Pattern ITEM = Pattern.compile("([brwc])([0-9]{1,3}),([0-9]{1,3});|(s)([0-9]{1,3});");

    Model() {
        text = "b9,0;b0,1;";
        lay();
        text = "";
    }

    void read() {
        toldBins = new ArrayList<>();
        toldWalls = new ArrayList<>();
        toldCorn = new ArrayList<>();
        toldKind = toldRats = toldV = 0;
        faultAt = NONE;
        int at = 0;
        while (at < text.length()) {
            Matcher m = ITEM.matcher(text).region(at, text.length());
            if (!m.lookingAt() || !item(m)) {
                faultAt = at;
                return;
            }
            at = m.end();
        }
    }

    boolean item(Matcher m) {
        if (m.group(4) != null) {
            toldKind = Integer.parseInt(m.group(5));
            return toldKind <= 2;
        }
        int a = Integer.parseInt(m.group(2)), b = Integer.parseInt(m.group(3));
        int[] two = {a, b};
        switch (m.group(1)) {
            case "b":
                toldBins.add(two);
                return a <= 99 && b <= 1 && toldBins.size() <= 8;
            case "r":
                toldRats = a;
                toldV = b;
                return a <= 3 && b <= 30;
            case "w":
                toldWalls.add(two);
                return a < toldBins.size() && b < toldBins.size() && a != b && toldWalls.size() <= 8;
            default:
                boolean late = toldCorn.isEmpty() || toldCorn.get(toldCorn.size() - 1)[0] <= a;
                toldCorn.add(two);
                return a <= 30 && b >= 1 && b <= 60 && late && toldCorn.size() <= 4;
        }
    }

    int write(int n, long value) {
        if (n < 1 || n > 8) return BAD;
        if (text.length() + n > 300) return FULL;
        for (int k = 8 - n; k < 8; k++) text += (char) (value >>> (56 - 8 * k) & 255);
        return text.length();
    }

    int wipe() { int was = text.length(); text = ""; return was; }

    int fault() { read(); return faultAt; }

    int lay() {
        read();
        if (faultAt != NONE || toldBins.isEmpty()) return NO;
        bins = toldBins; walls = toldWalls; corn = toldCorn;
        kind = toldKind; rats = toldRats; v = toldV;
        night = 0;
        keptPecks.clear();
        keptNight.clear();
        pecks = bins.stream().mapToInt(b -> b[0]).toArray();
        gaps = findGaps();
        return bins.size();
    }

    List<int[]> findGaps() {
        List<int[]> g = new ArrayList<>();
        int n = bins.size();
        if (kind < 2) {
            for (int i = 0; i + 1 < n; i++) g.add(new int[] {i, i + 1});
            if (kind == 1 && n >= 3) g.add(new int[] {0, n - 1});
        } else {
            int h = (n + 1) / 2;
            for (int i = 0; i + 1 < h; i++) g.add(new int[] {i, i + 1});
            for (int i = h; i + 1 < n; i++) g.add(new int[] {i, i + 1});
            for (int i = 0; i < h; i++) if (h + i < n) g.add(new int[] {i, h + i});
        }
        g.sort((a, b) -> a[0] != b[0] ? a[0] - b[0] : a[1] - b[1]);
        return g;
    }

    boolean walled(int g) {
        int i = gaps.get(g)[0], j = gaps.get(g)[1];
        for (int[] w : walls) if (w[0] == i && w[1] == j || w[0] == j && w[1] == i) return true;
        return false;
    }

    /** One night over row; what is lost out of each bin. */
    int[] pass(int[] row, int t, int kindOfRats, List<Integer> cats) {
        int[] dusk = row.clone();
        int[] gone = new int[row.length];
        for (int g = 0; g < gaps.size(); g++) {
            if (walled(g) || cats.contains(g)) continue;
            int i = gaps.get(g)[0], j = gaps.get(g)[1];
            int fuller = dusk[i] >= dusk[j] ? i : j;
            int d = Math.abs(dusk[i] - dusk[j]);
            int take = kindOfRats == 0 ? d : kindOfRats == 1 ? d / 2 : kindOfRats == 2 ? Math.max(0, d - v)
                : t % 7 == v % 7 ? d : d / 3;
            take = Math.min(take, row[fuller]);
            row[fuller] -= take;
            gone[fuller] += take;
        }
        return gone;
    }

    int lossBy(int[] from, int t, int n, int o, int kindOfRats, List<Integer> cats) {
        int[] row = from.clone();
        int sum = 0;
        for (int k = 0; k < n; k++) {
            int[] gone = pass(row, t + k, kindOfRats, cats);
            for (int b = 0; b < gone.length; b++) if (o < 0 || bins.get(b)[1] == o) sum += gone[b];
        }
        return sum;
    }

    int loss(int[] from, int t, int n, int o) { return lossBy(from, t, n, o, rats, List.of()); }

    boolean out(int x, int low, int high) { return x < low || x > high; }

    boolean noBin(int i) { return out(i, 0, bins.size() - 1); }

    int bin(int i, int what) {
        if (noBin(i) || out(what, 0, 1)) return BAD;
        return what == 0 ? pecks[i] : bins.get(i)[1];
    }

    int gap(int g, int what) {
        if (out(g, 0, gaps.size() - 1) || out(what, 0, 2)) return BAD;
        return what == 2 ? walled(g) ? 1 : 0 : gaps.get(g)[what];
    }

    int night() {
        int sum = Arrays.stream(pass(pecks, night, rats, List.of())).sum();
        night++;
        return sum;
    }

    int pour(int i, int j, int n) {
        if (noBin(i) || noBin(j) || i == j || out(n, 1, 99)) return BAD;
        if (pecks[i] < n || pecks[j] + n > 199) return NO;
        pecks[i] -= n;
        return pecks[j] += n;
    }

    int left(int i, int n) {
        if (noBin(i) || out(n, 0, 60)) return BAD;
        int[] row = pecks.clone();
        for (int k = 0; k < n; k++) pass(row, night + k, rats, List.of());
        return row[i];
    }

    int lost(int n, int o) {
        if (out(n, 0, 60) || out(o, -1, 1)) return BAD;
        return loss(pecks, night, n, o);
    }

    int bestLoss;
    int[] best;

    void offer(int lossNow, int[] row) {
        if (best == null || lossNow < bestLoss || lossNow == bestLoss && Arrays.compare(row, best) < 0) {
            bestLoss = lossNow;
            best = row.clone();
        }
    }

    int order(int n, int i) {
        if (out(n, 1, 20) || out(i, -1, bins.size() - 1)) return BAD;
        best = null;
        permute(new int[pecks.length], 0, 0, n);
        return i < 0 ? bestLoss : best[i];
    }

    void permute(int[] row, int at, int used, int n) {
        if (at == row.length) {
            offer(loss(row, night, n, -1), row);
            return;
        }
        for (int b = 0; b < row.length; b++) {
            if ((used >> b & 1) != 0) continue;
            row[at] = pecks[b];
            permute(row, at + 1, used | 1 << b, n);
        }
    }

    int[] swapped(int[] row, int i, int j) {
        int[] r = row.clone();
        r[i] = row[j];
        r[j] = row[i];
        return r;
    }

    int exchanged(int what) {
        if (out(what, 0, 1)) return BAD;
        int now = loss(pecks, night, 1, -1);
        for (int i = 0; i < pecks.length; i++)
            for (int j = i + 1; j < pecks.length; j++)
                if (loss(swapped(pecks, i, j), night, 1, -1) < now) return what == 0 ? i : j;
        return NONE;
    }

    List<int[]> pourings(int[] row, int q) {
        List<int[]> all = new ArrayList<>();
        all.add(new int[] {0, 0, 0});
        for (int i = 0; i < row.length; i++)
            for (int j = 0; j < row.length; j++)
                for (int p = 1; p <= q; p++)
                    if (i != j && row[i] >= p && row[j] + p <= 199) all.add(new int[] {i, j, p});
        return all;
    }

    int leastOfPours(int[] row, int t, int n, int q, int[] told) {
        int least = Integer.MAX_VALUE;
        for (int[] p : pourings(row, q)) {
            int[] r = row.clone();
            r[p[0]] -= p[2];
            r[p[1]] += p[2];
            int sum = Arrays.stream(pass(r, t, rats, List.of())).sum();
            if (n > 1) sum += leastOfPours(r, t + 1, n - 1, q, new int[3]);
            if (sum < least) {
                least = sum;
                System.arraycopy(p, 0, told, 0, 3);
            }
        }
        return least;
    }

    int pours(int n, int q, int what) {
        if (out(n, 1, 2) || out(q, 1, 5) || out(what, 0, 3)) return BAD;
        int[] told = new int[3];
        int least = leastOfPours(pecks, night, n, q, told);
        return what == 0 ? least : told[2] == 0 ? NONE : told[what - 1];
    }

    int corn(int n, int i) {
        if (out(n, 1, 31) || out(i, -1, corn.size() - 1)) return BAD;
        if (corn.isEmpty()) return NONE;
        best = null;
        cornRows(new int[corn.size()], 0, n);
        return best == null ? NONE : i < 0 ? bestLoss : best[i];
    }

    void cornRows(int[] row, int c, int n) {
        if (c < row.length) {
            int most = corn.get(c)[0] >= n ? 1 : bins.size();
            for (row[c] = 0; row[c] < most; row[c]++) cornRows(row, c + 1, n);
            row[c] = 0;
            return;
        }
        int[] r = pecks.clone();
        int sum = 0;
        for (int t = 0; t < n; t++) {
            for (int k = 0; k < row.length; k++)
                if (corn.get(k)[0] == t && (r[row[k]] += corn.get(k)[1]) > 199) return;
            sum += Arrays.stream(pass(r, t, rats, List.of())).sum();
        }
        offer(sum, row);
    }

    int cats(int k, int n, int i) {
        if (out(k, 1, 3) || out(n, 1, 20) || out(i, -1, k - 1)) return BAD;
        best = null;
        for (int set = 0; set < 1 << gaps.size(); set++) {
            List<Integer> at = new ArrayList<>();
            for (int g = 0; g < gaps.size(); g++) if ((set >> g & 1) != 0) at.add(g);
            if (at.size() == k && at.stream().noneMatch(this::walled))
                offer(lossBy(pecks, night, n, -1, rats, at), at.stream().mapToInt(g -> g).toArray());
        }
        return best == null ? NONE : i < 0 ? bestLoss : best[i];
    }

    int moves(int what) {
        if (out(what, 0, 2)) return BAD;
        int[] row = pecks.clone();
        int done = 0;
        boolean stillBefore = false;
        for (int o = 0; ; o = 1 - o) {
            int least = loss(row, night, 1, o);
            int[] to = null;
            for (int i = 0; i < row.length; i++)
                for (int j = i + 1; j < row.length; j++) {
                    int[] r = swapped(row, i, j);
                    if (bins.get(i)[1] != o || bins.get(j)[1] != o || loss(r, night, 1, o) >= least) continue;
                    least = loss(r, night, 1, o);
                    to = r;
                }
            if (to == null && stillBefore) break;
            stillBefore = to == null;
            if (to == null) continue;
            row = to;
            done++;
            if (done == 40) break;
        }
        return what > 0 ? loss(row, night, 1, what - 1) : done == 40 ? NONE : done;
    }

    int was(int m, int t, int i) {
        if (out(m, 0, 20) || out(t, 0, 6) || out(i, -1, bins.size() - 1)) return BAD;
        if (bins.size() > 4) return NO;
        int found = 0;
        int[] first = null;
        int[] row = new int[pecks.length];
        while (true) {
            int[] r = row.clone();
            pass(r, t, rats, List.of());
            if (Arrays.equals(r, pecks)) {
                found++;
                if (first == null) first = row.clone();
            }
            int b = row.length - 1;
            while (b >= 0 && row[b] == m) row[b--] = 0;
            if (b < 0) break;
            row[b]++;
        }
        return i < 0 ? found : first == null ? NONE : first[i];
    }

    int others(int k, int n) {
        if (out(k, 0, 3) || out(n, 0, 60)) return BAD;
        return lossBy(pecks, night, n, -1, k, List.of());
    }

    int[] draw(int z) {
        int[] row = new int[bins.size()];
        for (int b = 0; b < row.length; b++) {
            long x = 7919L * z + 6151L * b + 1;
            row[b] = (int) (x * x % 65521 % 100);
        }
        return row;
    }

    int drawn(int z, int n) {
        if (out(z, 0, 9999) || out(n, 0, 60)) return BAD;
        return loss(draw(z), night, n, -1);
    }

    int ten(int z, int n) {
        if (out(z, 0, 9999) || out(n, 0, 60)) return BAD;
        int found = 0;
        for (int k = 0; k < 10; k++) {
            int[] row = draw((z + k) % 10000);
            if (2 * loss(row, night, n, -1) > Arrays.stream(row).sum()) found++;
        }
        return found;
    }

    int keep() {
        if (keptPecks.size() == 2) return FULL;
        keptPecks.add(pecks.clone());
        keptNight.add(night);
        return keptPecks.size();
    }

    int back() {
        if (keptPecks.isEmpty()) return NO;
        int last = keptPecks.size() - 1;
        pecks = keptPecks.remove(last);
        night = keptNight.remove(last);
        return last;
    }

    int count(int what) {
        if (out(what, 0, 7)) return BAD;
        return new int[] {bins.size(), gaps.size(), walls.size(), corn.size(), night,
            Arrays.stream(pecks).sum(), text.length(), keptPecks.size()}[what];
    }
}
