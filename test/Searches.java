import java.util.Random;

/** Each search's whole answer, part by part, against the model, in barns where much is lost and poured. */
public final class Searches extends Checks {
    private static final int BARNS = 400;
    private static final Random random = new Random(20261119);

    private static int from(int low, int high) {
        return low + random.nextInt(high - low + 1);
    }

    private static int oneOf(int... these) {
        return these[random.nextInt(these.length)];
    }

    private static String text(int bins) {
        int high = oneOf(2, 6, 15, 40, 99);
        int low = oneOf(0, 0, high / 2, Math.max(0, high - 4));
        StringBuilder s = new StringBuilder();
        for (int b = 0; b < bins; b++) {
            s.append('b').append(from(low, high)).append(',').append(from(0, 1)).append(';');
        }
        s.append('s').append(from(0, 2)).append(";r").append(from(0, 3)).append(',').append(from(0, oneOf(4, 30))).append(';');
        for (int w = oneOf(0, 0, 1, 2, 4); w > 0; w--) {
            int i = from(0, bins - 1);
            s.append('w').append(i).append(',').append((i + from(1, bins - 1)) % bins).append(';');
        }
        int t = from(0, 2);
        for (int c = from(0, bins <= 5 ? 4 : 3); c > 0; c--) {
            s.append('c').append(t).append(',').append(from(1, 60)).append(';');
            t = Math.min(30, t + oneOf(0, 1, 3, 9));
        }
        return s.toString();
    }

    private static void livelyDays(RatsEat x, Model m) {
        for (int k = from(0, 6); k > 0; k--) {
            due("night", x.night(), m.night());
        }
        int bins = m.bins.size();
        for (int k = oneOf(0, 2, 6, 12); k > 0; k--) {
            int i = from(0, bins - 1), j = (i + from(1, bins - 1)) % bins;
            int n = from(1, Math.max(1, Math.min(99, m.pecks[i])));
            due("pour", x.pour(i, j, n), m.pour(i, j, n));
        }
    }

    private static void orders(String barn, RatsEat x, Model m) {
        int n = oneOf(1, 2, 3, 20);
        for (int i = -1; i < m.bins.size(); i++) {
            due(barn + "order " + n + " " + i, x.order(n, i), m.order(n, i));
        }
    }

    private static void changes(String barn, RatsEat x, Model m) {
        for (int w = 0; w <= 1; w++) {
            due(barn + "exchanged " + w, x.exchanged(w), m.exchanged(w));
        }
        for (int w = 0; w <= 2; w++) {
            due(barn + "moves " + w, x.moves(w), m.moves(w));
        }
    }

    private static void pours(String barn, RatsEat x, Model m) {
        int n = from(1, 2), q = from(1, 5);
        for (int w = 0; w <= 3; w++) {
            due(barn + "pours " + n + " " + q + " " + w, x.pours(n, q, w), m.pours(n, q, w));
        }
    }

    private static void corn(String barn, RatsEat x, Model m) {
        int n = oneOf(1, 2, 3, 8, 31);
        for (int i = -1; i < m.corn.size(); i++) {
            due(barn + "corn " + n + " " + i, x.corn(n, i), m.corn(n, i));
        }
    }

    private static void cats(String barn, RatsEat x, Model m) {
        for (int k = 1; k <= 3; k++) {
            int n = oneOf(1, 2, 5, 20);
            for (int i = -1; i < k; i++) {
                due(barn + "cats " + k + " " + n + " " + i, x.cats(k, n, i), m.cats(k, n, i));
            }
        }
    }

    private static void was(String barn, RatsEat x, Model m) {
        int most = m.bins.size() < 4 ? oneOf(5, 12, 20) : 6, t = from(0, 6);
        for (int i = -1; i < m.bins.size(); i++) {
            due(barn + "was " + most + " " + t + " " + i, x.was(most, t, i), m.was(most, t, i));
        }
    }

    private static void barn(int bins) {
        String text = text(bins);
        RatsEat x = written(text);
        Model m = new Model();
        m.text = text;
        due("lay " + text, x.lay(), m.lay());
        livelyDays(x, m);
        String barn = text + " at night " + m.night + ": ";
        changes(barn, x, m);
        corn(barn, x, m);
        cats(barn, x, m);
        was(barn, x, m);
        if (bins <= 6) {
            orders(barn, x, m);
        }
        if (bins <= 5) {
            pours(barn, x, m);
        }
        for (int b = 0; b < bins; b++) {
            due(barn + "bin " + b, x.bin(b, 0), m.bin(b, 0));
        }
    }

    public static void main(String[] args) {
        for (int k = 0; k < BARNS; k++) {
            barn(2 + k % 7);
        }
        end();
    }
}
