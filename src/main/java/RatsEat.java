/** A barn of bins in which rats eat, each night, the difference between every two that touch. */
public final class RatsEat {
    public static final int BAD = -1, NO = -2, FULL = -3, NONE = -4;

    private static final int MOST_BYTES = 300;
    private static final int MOST_BINS = 8;
    private static final int MOST_GAPS = 10;
    private static final int MOST_WALLS = 8;
    private static final int MOST_CORN = 4;
    private static final int MOST_TOLD = 99;
    private static final int MOST_POURED = 99;
    private static final int MOST_IN_A_BIN = 199;
    private static final int MOST_KEPT = 2;
    private static final int MOST_NIGHTS = 60;
    private static final int MOST_DRAW = 9999;
    private static final int MOST_CATS = 3;
    private static final int MOST_MOVES = 40;
    private static final int MOST_BINS_BEFORE = 4;
    private static final int MOST_ORDERS = 40320;
    private static final int MOST_ROWS_BEFORE = 194481;
    private static final int ANY_OWNER = -1;
    private static final int NO_LIMIT = 1000000;

    private final byte[] text = new byte[MOST_BYTES];
    private int length = 0;
    private final Reader reader = new Reader();
    private final Barn draft = new Barn();
    private final Barn barn = new Barn();
    private final Nights nights = new Nights(barn);
    private final int[] pecks = new int[MOST_BINS];
    private int tonight = 0;
    private final int[] trial = new int[MOST_BINS];
    private final int[][] keptPecks = new int[MOST_KEPT][MOST_BINS];
    private final int[] keptNights = new int[MOST_KEPT];
    private int kept = 0;
    private final Orders orders = new Orders(barn, nights);
    private final Changes changes = new Changes(barn, nights);
    private final PourSearch pourSearch = new PourSearch(barn, nights);
    private final CornSearch cornSearch = new CornSearch(barn, nights);
    private final CatSearch catSearch = new CatSearch(barn, nights);
    private final Before before = new Before(barn, nights);

    public RatsEat() {
        barn.addBin(9, 0);
        barn.addBin(0, 1);
        barn.joinBins();
        enterBarn();
    }

    // ---- barns

    public int write(int n, long v) {
        if (!within(n, 1, 8)) {
            return BAD;
        }
        if (length + n > MOST_BYTES) {
            return FULL;
        }
        for (int k = n - 1; k >= 0; k--) {
            text[length] = (byte) (v >>> (8 * k));
            length++;
        }
        return length;
    }

    public int wipe() {
        int was = length;
        length = 0;
        return was;
    }

    public int fault() {
        return reader.readInto(draft, text, length);
    }

    public int lay() {
        if (reader.readInto(draft, text, length) != NONE || draft.bins == 0) {
            return NO;
        }
        reader.readInto(barn, text, length);
        barn.joinBins();
        enterBarn();
        return barn.bins;
    }

    public int bin(int i, int what) {
        if (!isBin(i) || !within(what, 0, 1)) {
            return BAD;
        }
        return what == 0 ? pecks[i] : barn.owners[i];
    }

    public int gap(int g, int what) {
        if (!within(g, 0, barn.gaps - 1) || !within(what, 0, 2)) {
            return BAD;
        }
        if (what == 0) {
            return barn.gapLow[g];
        }
        if (what == 1) {
            return barn.gapHigh[g];
        }
        return barn.walled[g] ? 1 : 0;
    }

    public int night() {
        int gone = nights.run(barn.rats, pecks, tonight, 1, NO_LIMIT);
        tonight++;
        return gone;
    }

    public int pour(int i, int j, int n) {
        if (!isBin(i) || !isBin(j) || i == j || !within(n, 1, MOST_POURED)) {
            return BAD;
        }
        if (!canPour(pecks, i, j, n)) {
            return NO;
        }
        pecks[i] -= n;
        pecks[j] += n;
        return pecks[j];
    }

    // ---- nights

    public int left(int i, int n) {
        if (!isBin(i) || !within(n, 0, MOST_NIGHTS)) {
            return BAD;
        }
        copyBins(pecks, trial);
        nights.run(barn.rats, trial, tonight, n, NO_LIMIT);
        return trial[i];
    }

    public int lost(int n, int o) {
        if (!within(n, 0, MOST_NIGHTS) || !within(o, ANY_OWNER, 1)) {
            return BAD;
        }
        copyBins(pecks, trial);
        nights.run(barn.rats, trial, tonight, n, NO_LIMIT);
        return nights.goneFrom(o);
    }

    public int order(int n, int i) {
        if (!within(n, 1, 20) || !within(i, -1, barn.bins - 1)) {
            return BAD;
        }
        orders.search(pecks, tonight, n);
        return i == -1 ? orders.least : orders.best[i];
    }

    public int exchanged(int what) {
        if (!within(what, 0, 1)) {
            return BAD;
        }
        if (!changes.findExchange(pecks, tonight)) {
            return NONE;
        }
        return what == 0 ? changes.one : changes.other;
    }

    // ---- days

    public int pours(int n, int q, int what) {
        if (!within(n, 1, 2) || !within(q, 1, 5) || !within(what, 0, 3)) {
            return BAD;
        }
        pourSearch.search(pecks, tonight, n, q);
        if (what == 0) {
            return pourSearch.least;
        }
        if (pourSearch.many == 0) {
            return NONE;
        }
        if (what == 1) {
            return pourSearch.from;
        }
        return what == 2 ? pourSearch.to : pourSearch.many;
    }

    public int corn(int n, int i) {
        if (!within(n, 1, 31) || !within(i, -1, barn.corns - 1)) {
            return BAD;
        }
        if (barn.corns == 0 || !cornSearch.search(pecks, n)) {
            return NONE;
        }
        return i == -1 ? cornSearch.least : cornSearch.best[i];
    }

    public int cats(int k, int n, int i) {
        if (!within(k, 1, MOST_CATS) || !within(n, 1, 20) || !within(i, -1, k - 1)) {
            return BAD;
        }
        if (!catSearch.search(pecks, tonight, n, k)) {
            return NONE;
        }
        return i == -1 ? catSearch.least : catSearch.best[i];
    }

    public int moves(int what) {
        if (!within(what, 0, 2)) {
            return BAD;
        }
        changes.settle(pecks, tonight);
        if (what > 0) {
            return changes.lossOfRow(what - 1, tonight);
        }
        return changes.done == MOST_MOVES ? NONE : changes.done;
    }

    // ---- ahead, others

    public int was(int m, int t, int i) {
        if (!within(m, 0, 20) || !within(t, 0, 6) || !within(i, -1, barn.bins - 1)) {
            return BAD;
        }
        if (barn.bins > MOST_BINS_BEFORE) {
            return NO;
        }
        before.search(pecks, m, t);
        if (i == -1) {
            return before.found;
        }
        return before.found == 0 ? NONE : before.first[i];
    }

    public int others(int kind, int n) {
        if (!within(kind, 0, 3) || !within(n, 0, MOST_NIGHTS)) {
            return BAD;
        }
        copyBins(pecks, trial);
        return nights.run(kind, trial, tonight, n, NO_LIMIT);
    }

    public int drawn(int z, int n) {
        if (!within(z, 0, MOST_DRAW) || !within(n, 0, MOST_NIGHTS)) {
            return BAD;
        }
        drawTrial(z);
        return nights.run(barn.rats, trial, tonight, n, NO_LIMIT);
    }

    public int ten(int z, int n) {
        if (!within(z, 0, MOST_DRAW) || !within(n, 0, MOST_NIGHTS)) {
            return BAD;
        }
        int found = 0;
        for (int k = 0; k < 10; k++) {
            drawTrial((z + k) % (MOST_DRAW + 1));
            int all = sumOf(trial);
            if (2 * nights.run(barn.rats, trial, tonight, n, NO_LIMIT) > all) {
                found++;
            }
        }
        return found;
    }

    public int keep() {
        if (kept >= MOST_KEPT) {
            return FULL;
        }
        copyBins(pecks, keptPecks[kept]);
        keptNights[kept] = tonight;
        kept++;
        return kept;
    }

    public int back() {
        if (kept <= 0) {
            return NO;
        }
        kept--;
        copyBins(keptPecks[kept], pecks);
        tonight = keptNights[kept];
        return kept;
    }

    public int count(int what) {
        switch (what) {
            case 0: return barn.bins;
            case 1: return barn.gaps;
            case 2: return barn.walls;
            case 3: return barn.corns;
            case 4: return tonight;
            case 5: return sumOf(pecks);
            case 6: return length;
            case 7: return kept;
            default: return BAD;
        }
    }

    // ---- helpers

    private void enterBarn() {
        copyBins(barn.told, pecks);
        tonight = 0;
        kept = 0;
    }

    private boolean isBin(int i) {
        return within(i, 0, barn.bins - 1);
    }

    private int sumOf(int[] row) {
        int sum = 0;
        for (int b = 0; b < barn.bins; b++) {
            sum += row[b];
        }
        return sum;
    }

    private void drawTrial(int z) {
        for (int b = 0; b < barn.bins; b++) {
            long x = 7919L * z + 6151L * b + 1;
            trial[b] = (int) (x * x % 65521 % 100);
        }
    }

    private static boolean within(int x, int low, int high) {
        return x >= low && x <= high;
    }

    private static void copyBins(int[] from, int[] to) {
        System.arraycopy(from, 0, to, 0, MOST_BINS);
    }

    private static void swapBins(int[] row, int i, int j) {
        int held = row[i];
        row[i] = row[j];
        row[j] = held;
    }

    private static boolean canPour(int[] row, int i, int j, int n) {
        return row[i] >= n && row[j] + n <= MOST_IN_A_BIN;
    }

    /** What a text tells: bins, how they stand, rats, walls, corn, and the gaps that come of these. */
    private static final class Barn {
        private static final int RING = 1, TWO_ROWS = 2;

        private final int[] told = new int[MOST_BINS];
        private final int[] owners = new int[MOST_BINS];
        private int bins = 0;
        private int kind = 0;
        private int rats = 0;
        private int ratsBy = 0;
        private final int[] wallOne = new int[MOST_WALLS];
        private final int[] wallOther = new int[MOST_WALLS];
        private int walls = 0;
        private final int[] cornNight = new int[MOST_CORN];
        private final int[] cornPecks = new int[MOST_CORN];
        private int corns = 0;
        private final int[] gapLow = new int[MOST_GAPS];
        private final int[] gapHigh = new int[MOST_GAPS];
        private final boolean[] walled = new boolean[MOST_GAPS];
        private int gaps = 0;

        private void clear() {
            bins = 0;
            kind = 0;
            rats = 0;
            ratsBy = 0;
            walls = 0;
            corns = 0;
            gaps = 0;
        }

        private boolean addBin(int amount, int owner) {
            if (bins >= MOST_BINS || amount > MOST_TOLD || owner > 1) {
                return false;
            }
            told[bins] = amount;
            owners[bins] = owner;
            bins++;
            return true;
        }

        private boolean setKind(int k) {
            if (k > TWO_ROWS) {
                return false;
            }
            kind = k;
            return true;
        }

        private boolean setRats(int k, int v) {
            if (k > 3 || v > 30) {
                return false;
            }
            rats = k;
            ratsBy = v;
            return true;
        }

        private boolean addWall(int i, int j) {
            if (walls >= MOST_WALLS || i >= bins || j >= bins || i == j) {
                return false;
            }
            wallOne[walls] = i;
            wallOther[walls] = j;
            walls++;
            return true;
        }

        private boolean addCorn(int t, int n) {
            if (corns >= MOST_CORN || t > 30 || !within(n, 1, 60)) {
                return false;
            }
            if (corns > 0 && t < cornNight[corns - 1]) {
                return false;
            }
            cornNight[corns] = t;
            cornPecks[corns] = n;
            corns++;
            return true;
        }

        private void joinBins() {
            gaps = 0;
            for (int i = 0; i < bins; i++) {
                for (int j = i + 1; j < bins; j++) {
                    if (touch(i, j) && gaps < MOST_GAPS) {
                        gapLow[gaps] = i;
                        gapHigh[gaps] = j;
                        walled[gaps] = hasWall(i, j);
                        gaps++;
                    }
                }
            }
        }

        private boolean touch(int i, int j) {
            boolean next = j == i + 1;
            if (kind == RING) {
                return next || (i == 0 && j == bins - 1);
            }
            if (kind == TWO_ROWS) {
                int half = (bins + 1) / 2;
                return (next && j != half) || (i < half && j == half + i);
            }
            return next;
        }

        private boolean hasWall(int i, int j) {
            for (int w = 0; w < walls; w++) {
                if (Math.min(wallOne[w], wallOther[w]) == i && Math.max(wallOne[w], wallOther[w]) == j) {
                    return true;
                }
            }
            return false;
        }
    }

    /** Reads a text item by item into a barn. */
    private static final class Reader {
        private static final int MOST_FIGURES = 3;

        private final int[] numbers = new int[2];

        /** The place of the first item that is not so, or NONE. */
        private int readInto(Barn into, byte[] text, int length) {
            into.clear();
            int start = 0;
            for (int items = 0; items < MOST_BYTES && start < length; items++) {
                int behind = behindItem(text, start, length);
                if (behind == NONE || !tell(into, text[start])) {
                    return start;
                }
                start = behind;
            }
            return NONE;
        }

        /** Where the item at start, its numbers read, is over; NONE if it is not formed as one. */
        private int behindItem(byte[] text, int start, int length) {
            int due = numbersDue(text[start]);
            int at = start + 1;
            for (int k = 0; k < due; k++) {
                int behind = behindFigures(text, at, length);
                if (behind == at || behind >= length) {
                    return NONE;
                }
                numbers[k] = numberIn(text, at, behind);
                if (text[behind] != (k == due - 1 ? ';' : ',')) {
                    return NONE;
                }
                at = behind + 1;
            }
            return due == 0 ? NONE : at;
        }

        private static int numbersDue(int letter) {
            switch (letter) {
                case 's': return 1;
                case 'b': case 'r': case 'w': case 'c': return 2;
                default: return 0;
            }
        }

        private static int behindFigures(byte[] text, int at, int length) {
            int end = Math.min(length, at + MOST_FIGURES);
            for (int k = at; k < end; k++) {
                if (!within(text[k], '0', '9')) {
                    return k;
                }
            }
            return Math.max(at, end);
        }

        private static int numberIn(byte[] text, int at, int behind) {
            int value = 0;
            for (int k = at; k < behind; k++) {
                value = 10 * value + text[k] - '0';
            }
            return value;
        }

        private boolean tell(Barn into, int letter) {
            switch (letter) {
                case 'b': return into.addBin(numbers[0], numbers[1]);
                case 's': return into.setKind(numbers[0]);
                case 'r': return into.setRats(numbers[0], numbers[1]);
                case 'w': return into.addWall(numbers[0], numbers[1]);
                case 'c': return into.addCorn(numbers[0], numbers[1]);
                default: return false;
            }
        }
    }

    /** Runs nights over a row of amounts, by the barn's gaps and walls, and cats that are set. */
    private static final class Nights {
        private static final int HALF = 1, OVER = 2, MOON = 3;

        private final Barn barn;
        private final boolean[] cat = new boolean[MOST_GAPS];
        private final int[] wanted = new int[MOST_BINS];
        private final int[] goneOf = new int[2];

        private Nights(Barn barn) {
            this.barn = barn;
        }

        /** What is gone in n nights; once that is no less than limit, no further night is run. */
        private int run(int rats, int[] row, int first, int n, int limit) {
            goneOf[0] = 0;
            goneOf[1] = 0;
            int spared = rats == OVER ? barn.ratsBy : 0;
            int gone = 0;
            for (int k = 0; k < n && gone < limit; k++) {
                int part = partOf(rats, first + k);
                int now = pass(row, spared, part);
                gone += now;
                // Nothing gone leaves all as it is, so the nights behind are alike, but for a moon to come.
                if (now == 0 && (rats != MOON || part == 1)) {
                    break;
                }
            }
            return gone;
        }

        private int goneFrom(int owner) {
            return within(owner, 0, 1) ? goneOf[owner] : goneOf[0] + goneOf[1];
        }

        /** By what rats cut the difference in the night t. */
        private int partOf(int rats, int t) {
            if (rats == MOON) {
                return t % 7 == barn.ratsBy % 7 ? 1 : 3;
            }
            return rats == HALF ? 2 : 1;
        }

        private int pass(int[] row, int spared, int part) {
            wantByGaps(row, spared, part);
            int gone = 0;
            for (int b = 0; b < barn.bins; b++) {
                // A bin gives gap by gap till it is empty: in all the lesser of what is wanted and what it has.
                int now = wanted[b] < row[b] ? wanted[b] : row[b];
                row[b] -= now;
                goneOf[barn.owners[b]] += now;
                gone += now;
            }
            return gone;
        }

        private void wantByGaps(int[] row, int spared, int part) {
            for (int b = 0; b < barn.bins; b++) {
                wanted[b] = 0;
            }
            for (int g = 0; g < barn.gaps; g++) {
                int i = barn.gapLow[g];
                int j = barn.gapHigh[g];
                int more = row[i] - row[j];
                int eaten = (more < 0 ? -more : more) - spared;
                if (eaten > 0 && part > 0 && !barn.walled[g] && !cat[g]) {
                    wanted[more > 0 ? i : j] += eaten / part;
                }
            }
        }
    }

    /** Of all orders of the amounts, the first by which least is lost. */
    private static final class Orders {
        private final Barn barn;
        private final Nights nights;
        private final int[] row = new int[MOST_BINS];
        private final int[] dusk = new int[MOST_BINS];
        private final int[] best = new int[MOST_BINS];
        private int least = 0;

        private Orders(Barn barn, Nights nights) {
            this.barn = barn;
            this.nights = nights;
        }

        private void search(int[] pecks, int first, int n) {
            copyBins(pecks, row);
            sortRow();
            least = NO_LIMIT;
            boolean more = true;
            for (int k = 0; k < MOST_ORDERS && more; k++) {
                copyBins(row, dusk);
                int gone = nights.run(barn.rats, dusk, first, n, least);
                if (gone < least) {
                    least = gone;
                    copyBins(row, best);
                }
                more = nextOrder();
            }
        }

        private void sortRow() {
            for (int i = 1; i < barn.bins; i++) {
                for (int j = i; j > 0 && row[j] < row[j - 1]; j--) {
                    swapBins(row, j, j - 1);
                }
            }
        }

        /** The next order by bin 0, then 1, ..; equal amounts give each order once. */
        private boolean nextOrder() {
            int i = barn.bins - 2;
            while (i >= 0 && row[i] >= row[i + 1]) {
                i--;
            }
            if (i < 0) {
                return false;
            }
            int j = barn.bins - 1;
            while (j > i + 1 && row[j] <= row[i]) {
                j--;
            }
            swapBins(row, i, j);
            for (int a = i + 1, b = barn.bins - 1; a < b; a++, b--) {
                swapBins(row, a, b);
            }
            return true;
        }
    }

    /** Two bins whose amounts are changed with each other: by anybody once, or by owners in turn. */
    private static final class Changes {
        private final Barn barn;
        private final Nights nights;
        private final int[] row = new int[MOST_BINS];
        private final int[] dusk = new int[MOST_BINS];
        private int one = 0;
        private int other = 0;
        private int done = 0;

        private Changes(Barn barn, Nights nights) {
            this.barn = barn;
            this.nights = nights;
        }

        /** Finds the first two bins by the change of which less is lost in the night t. */
        private boolean findExchange(int[] pecks, int t) {
            copyBins(pecks, row);
            int now = lossOfRow(ANY_OWNER, t);
            for (int i = 0; i < barn.bins; i++) {
                for (int j = i + 1; j < barn.bins; j++) {
                    swapBins(row, i, j);
                    int loss = lossOfRow(ANY_OWNER, t);
                    swapBins(row, i, j);
                    if (loss < now) {
                        one = i;
                        other = j;
                        return true;
                    }
                }
            }
            return false;
        }

        private void settle(int[] pecks, int t) {
            copyBins(pecks, row);
            done = 0;
            int still = 0;
            // Between two moves at most one turn goes by without one.
            for (int turn = 0; turn < 2 * MOST_MOVES + 2 && still < 2 && done < MOST_MOVES; turn++) {
                if (changeBest(turn % 2, t)) {
                    done++;
                    still = 0;
                } else {
                    still++;
                }
            }
        }

        private boolean changeBest(int owner, int t) {
            int least = lossOfRow(owner, t);
            boolean found = false;
            for (int i = 0; i < barn.bins; i++) {
                for (int j = i + 1; j < barn.bins; j++) {
                    if (barn.owners[i] != owner || barn.owners[j] != owner) {
                        continue;
                    }
                    swapBins(row, i, j);
                    int loss = lossOfRow(owner, t);
                    swapBins(row, i, j);
                    if (loss < least) {
                        least = loss;
                        one = i;
                        other = j;
                        found = true;
                    }
                }
            }
            if (found) {
                swapBins(row, one, other);
            }
            return found;
        }

        private int lossOfRow(int owner, int t) {
            copyBins(row, dusk);
            nights.run(barn.rats, dusk, t, 1, NO_LIMIT);
            return nights.goneFrom(owner);
        }
    }

    /** What is poured on one day; goes through all that can be, nothing first, then by from, to, how many. */
    private static final class Pouring {
        private int from = 0;
        private int to = 0;
        private int many = 0;

        private void toNothing() {
            from = 0;
            to = 0;
            many = 0;
        }

        private boolean toNext(int[] row, int bins, int q) {
            if (many > 0 && many < q && canPour(row, from, to, many + 1)) {
                many++;
                return true;
            }
            for (int pair = from * MOST_BINS + to + 1; pair < bins * MOST_BINS; pair++) {
                from = pair / MOST_BINS;
                to = pair % MOST_BINS;
                if (to < bins && from != to && canPour(row, from, to, 1)) {
                    many = 1;
                    return true;
                }
            }
            return false;
        }

        private void fill(int[] row, int[] dusk) {
            copyBins(row, dusk);
            dusk[from] -= many;
            dusk[to] += many;
        }
    }

    /** The first of the pours by which least is lost in one night or two. */
    private static final class PourSearch {
        private static final int MOST_POURS = 281;

        private final Barn barn;
        private final Nights nights;
        private final Pouring today = new Pouring();
        private final Pouring tomorrow = new Pouring();
        private final int[] dusk = new int[MOST_BINS];
        private final int[] nextDusk = new int[MOST_BINS];
        private int least = 0;
        private int from = 0;
        private int to = 0;
        private int many = 0;

        private PourSearch(Barn barn, Nights nights) {
            this.barn = barn;
            this.nights = nights;
        }

        private void search(int[] pecks, int first, int n, int q) {
            least = NO_LIMIT;
            today.toNothing();
            boolean more = true;
            for (int k = 0; k < MOST_POURS && more; k++) {
                today.fill(pecks, dusk);
                int gone = nights.run(barn.rats, dusk, first, 1, NO_LIMIT);
                if (n == 2 && gone < least) {
                    gone += leastTomorrow(first + 1, q);
                }
                if (gone < least) {
                    least = gone;
                    from = today.from;
                    to = today.to;
                    many = today.many;
                }
                more = today.toNext(pecks, barn.bins, q);
            }
        }

        private int leastTomorrow(int t, int q) {
            int lowest = NO_LIMIT;
            tomorrow.toNothing();
            boolean more = true;
            for (int k = 0; k < MOST_POURS && more && lowest > 0; k++) {
                tomorrow.fill(dusk, nextDusk);
                lowest = Math.min(lowest, nights.run(barn.rats, nextDusk, t, 1, NO_LIMIT));
                more = tomorrow.toNext(dusk, barn.bins, q);
            }
            return lowest;
        }
    }

    /** The first row of bins for the corn that comes by which least is lost. */
    private static final class CornSearch {
        private final Barn barn;
        private final Nights nights;
        private final int[][] ahead = new int[MOST_CORN + 1][MOST_BINS];
        private final int[] row = new int[MOST_CORN];
        private final int[] best = new int[MOST_CORN];
        private int least = 0;
        private int coming = 0;
        private int end = 0;

        private CornSearch(Barn barn, Nights nights) {
            this.barn = barn;
            this.nights = nights;
        }

        private boolean search(int[] pecks, int n) {
            end = n;
            coming = 0;
            for (int c = 0; c < barn.corns; c++) {
                row[c] = 0;
                if (barn.cornNight[c] < n) {
                    coming++;
                }
            }
            least = NO_LIMIT;
            copyBins(pecks, ahead[0]);
            goOn(0, 0, 0);
            return least != NO_LIMIT;
        }

        /** Runs the nights up to corn c, then puts that into each bin; before c, lost is gone by night t. */
        private void goOn(int c, int t, int lost) {
            boolean last = c >= coming;
            int until = last ? end : barn.cornNight[c];
            int gone = lost + nights.run(barn.rats, ahead[c], t, until - t, least - lost);
            if (gone >= least) {
                return;
            }
            if (last) {
                least = gone;
                System.arraycopy(row, 0, best, 0, MOST_CORN);
                return;
            }
            for (int b = 0; b < barn.bins; b++) {
                if (ahead[c][b] + barn.cornPecks[c] <= MOST_IN_A_BIN) {
                    row[c] = b;
                    copyBins(ahead[c], ahead[c + 1]);
                    ahead[c + 1][b] += barn.cornPecks[c];
                    goOn(c + 1, until, gone);
                }
            }
        }
    }

    /** The first gaps for cats by which least is lost. */
    private static final class CatSearch {
        private final Barn barn;
        private final Nights nights;
        private final int[] start = new int[MOST_BINS];
        private final int[] dusk = new int[MOST_BINS];
        private final int[] row = new int[MOST_CATS];
        private final int[] best = new int[MOST_CATS];
        private int least = 0;
        private int first = 0;
        private int many = 0;
        private int all = 0;

        private CatSearch(Barn barn, Nights nights) {
            this.barn = barn;
            this.nights = nights;
        }

        private boolean search(int[] pecks, int t, int n, int k) {
            copyBins(pecks, start);
            first = t;
            many = n;
            all = Math.min(k, MOST_CATS);
            least = NO_LIMIT;
            choose(0, 0);
            return least != NO_LIMIT;
        }

        private void choose(int cat, int lowest) {
            if (cat >= all) {
                weigh();
                return;
            }
            for (int g = lowest; g < barn.gaps; g++) {
                if (!barn.walled[g]) {
                    row[cat] = g;
                    nights.cat[g] = true;
                    choose(cat + 1, g + 1);
                    nights.cat[g] = false;
                }
            }
        }

        private void weigh() {
            copyBins(start, dusk);
            int gone = nights.run(barn.rats, dusk, first, many, least);
            if (gone < least) {
                least = gone;
                System.arraycopy(row, 0, best, 0, MOST_CATS);
            }
        }
    }

    /** Rows of amounts out of which a night makes what is there now. */
    private static final class Before {
        private final Barn barn;
        private final Nights nights;
        private final int[] row = new int[MOST_BINS];
        private final int[] dawn = new int[MOST_BINS];
        private final int[] first = new int[MOST_BINS];
        private int found = 0;

        private Before(Barn barn, Nights nights) {
            this.barn = barn;
            this.nights = nights;
        }

        private void search(int[] now, int m, int t) {
            found = 0;
            boolean more = startRow(now, m);
            for (int k = 0; k < MOST_ROWS_BEFORE && more; k++) {
                if (becomes(now, t)) {
                    if (found == 0) {
                        copyBins(row, first);
                    }
                    found++;
                }
                more = nextRow(now, m);
            }
        }

        /** A night never adds, so no bin can have had less than it has now. */
        private boolean startRow(int[] now, int m) {
            copyBins(now, row);
            for (int b = 0; b < barn.bins; b++) {
                if (now[b] > m) {
                    return false;
                }
            }
            return true;
        }

        private boolean nextRow(int[] now, int m) {
            for (int b = barn.bins - 1; b >= 0; b--) {
                if (row[b] < m) {
                    row[b]++;
                    return true;
                }
                row[b] = now[b];
            }
            return false;
        }

        private boolean becomes(int[] now, int t) {
            copyBins(row, dawn);
            nights.run(barn.rats, dawn, t, 1, NO_LIMIT);
            for (int b = 0; b < barn.bins; b++) {
                if (dawn[b] != now[b]) {
                    return false;
                }
            }
            return true;
        }
    }
}
