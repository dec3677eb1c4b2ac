import java.util.Random;

/** Long runs of mixed calls, right and wrong, against a slow model that follows the document word by word. */
public final class AgainstModel {
    static int wrong = 0;
    static int calls = 0;

    static final Random random = new Random(20261118);

    static int upTo(int most) { return random.nextInt(most + 1); }

    /** A number of the range, now and then one beside it or far off. */
    static int about(int low, int high) {
        switch (upTo(60)) {
            case 0: return low - 1;
            case 1: return high + 1;
            case 2: return random.nextBoolean() ? Integer.MAX_VALUE : Integer.MIN_VALUE;
            case 3: return low;
            case 4: return high;
            default: return low + upTo(Math.max(0, high - low));
        }
    }

    /** Calls of one object; what it answers behind 512 of them is free. */
    static int used = 0;
    static int mostUsed = 0;

    static RatsEat made() {
        used = 0;
        return new RatsEat();
    }

    static void same(String call, int got, int want) {
        calls++;
        used++;
        mostUsed = Math.max(mostUsed, used);
        if (got != want) {
            wrong++;
            if (wrong < 50) System.out.println(call + " answered " + got + ", due is " + want);
        }
    }

    static String figures(int x) { return upTo(9) == 0 && x < 100 ? "0" + x : "" + x; }

    static String item(int letter, int a, int b) {
        return (char) letter + figures(a) + (letter == 's' ? "" : "," + figures(b)) + ";";
    }

    static String randomText(int mostBins, boolean spoil) {
        StringBuilder s = new StringBuilder();
        int n = 1 + upTo(mostBins - 1);
        int high = new int[] {3, 12, 40, 99}[upTo(3)];
        if (upTo(3) == 0) s.append(item('s', upTo(2), 0));
        for (int b = 0; b < n; b++) {
            s.append(item('b', upTo(high), upTo(1)));
            if (b > 0 && upTo(4) == 0) s.append(wall(b + 1));
        }
        if (upTo(4) > 0) s.append(item('s', upTo(2), 0));
        if (upTo(4) > 0) s.append(item('r', upTo(3), upTo(2) == 0 ? upTo(30) : upTo(8)));
        for (int w = upTo(3); w > 1 && n > 1; w--) s.append(wall(n));
        int t = 0;
        for (int c = upTo(4); c > 0; c--) s.append(item('c', t = Math.min(30, t + upTo(2)), 1 + upTo(59)));
        if (spoil) spoilText(s);
        return s.length() > 300 ? s.substring(0, 300) : s.toString();
    }

    static String wall(int n) {
        int i = upTo(n - 1);
        return item('w', i, (i + 1 + upTo(n - 2)) % n);
    }

    static void spoilText(StringBuilder s) {
        int at = upTo(s.length() - 1);
        switch (upTo(5)) {
            case 0: s.deleteCharAt(at); break;
            case 1: s.insert(at, "0123456789,;bsrwcx".charAt(upTo(17))); break;
            case 2: s.setCharAt(at, (char) upTo(255)); break;
            case 3: s.append("brwc".charAt(upTo(3))).append(upTo(120)).append(',').append(upTo(70)).append(';'); break;
            case 4: s.append('s').append(upTo(4)).append(';'); break;
            default: s.setLength(at);
        }
    }

    static void writeBoth(RatsEat x, Model m, String text) {
        for (int at = 0; at < text.length(); ) {
            int n = Math.min(1 + upTo(7), text.length() - at);
            long v = random.nextLong();
            for (int k = 0; k < n; k++) v = v << 8 | text.charAt(at + k);
            same("write " + text, x.write(n, v), m.write(n, v));
            at += n;
        }
    }

    static void layBoth(RatsEat x, Model m, int mostBins) {
        same("wipe", x.wipe(), m.wipe());
        String text = randomText(mostBins, upTo(3) == 0);
        writeBoth(x, m, text);
        same("fault of " + text, x.fault(), m.fault());
        same("lay " + text, x.lay(), m.lay());
    }

    static void state(RatsEat x, Model m) {
        for (int w = -1; w <= 8; w++) same("count " + w, x.count(w), m.count(w));
        for (int b = -1; b <= 8; b++) {
            same("bin " + b, x.bin(b, 0), m.bin(b, 0));
            same("bin's owner " + b, x.bin(b, 1), m.bin(b, 1));
        }
        for (int g = -1; g <= m.gaps.size(); g++)
            for (int w = 0; w <= 2; w++) same("gap " + g + " " + w, x.gap(g, w), m.gap(g, w));
    }

    static void cheap(RatsEat x, Model m) {
        int n = m.bins.size(), a, b, c;
        switch (upTo(13)) {
            case 0: same("night", x.night(), m.night()); break;
            case 1: case 2: case 3:
                a = about(0, n - 1); b = about(0, n - 1); c = about(1, 99);
                if (random.nextBoolean() && a >= 0 && a < n) c = Math.min(99, m.pecks[a]);
                same("pour " + a + " " + b + " " + c, x.pour(a, b, c), m.pour(a, b, c));
                break;
            case 4: same("keep", x.keep(), m.keep()); break;
            case 5: same("back", x.back(), m.back()); break;
            case 6: a = about(0, n - 1); b = about(0, 60); same("left " + a + " " + b, x.left(a, b), m.left(a, b)); break;
            case 7: a = about(0, 60); b = about(-1, 1); same("lost " + a + " " + b, x.lost(a, b), m.lost(a, b)); break;
            case 8: a = about(0, 1); same("exchanged " + a, x.exchanged(a), m.exchanged(a)); break;
            case 9: a = about(0, 2); same("moves " + a, x.moves(a), m.moves(a)); break;
            case 10: a = about(0, 3); b = about(0, 60); same("others " + a + " " + b, x.others(a, b), m.others(a, b)); break;
            case 11: a = about(0, 9999); b = about(0, 60); same("drawn " + a + " " + b, x.drawn(a, b), m.drawn(a, b)); break;
            case 12: a = about(0, 9999); b = about(0, 60); same("ten " + a + " " + b, x.ten(a, b), m.ten(a, b)); break;
            default: a = about(1, 8); long v = random.nextLong(); same("write " + a, x.write(a, v), m.write(a, v));
        }
    }

    static void dear(RatsEat x, Model m) {
        int n = m.bins.size(), a, b, c;
        switch (upTo(4)) {
            case 0: a = about(1, 20); b = about(-1, n - 1); same("order " + a + " " + b, x.order(a, b), m.order(a, b)); break;
            case 1:
                a = about(1, 2); b = about(1, n > 5 ? 1 : 5); c = about(0, 3);
                same("pours " + a + " " + b + " " + c, x.pours(a, b, c), m.pours(a, b, c));
                break;
            case 2:
                a = random.nextBoolean() ? about(1, 6) : about(1, 31); b = about(-1, m.corn.size() - 1);
                same("corn " + a + " " + b, x.corn(a, b), m.corn(a, b));
                break;
            case 3:
                a = about(1, 3); b = about(1, 20); c = about(-1, Math.max(0, Math.min(a, 4)) - 1);
                same("cats " + a + " " + b + " " + c, x.cats(a, b, c), m.cats(a, b, c));
                break;
            default:
                a = about(0, n > 3 ? 7 : 20); b = about(0, 6); c = about(-1, n - 1);
                same("was " + a + " " + b + " " + c, x.was(a, b, c), m.was(a, b, c));
        }
    }

    static void runOf(int lays, int mostBins) {
        RatsEat x = made();
        Model m = new Model();
        for (int k = 0; k < lays; k++) {
            layBoth(x, m, mostBins);
            state(x, m);
            for (int c = 0; c < 20; c++) {
                cheap(x, m);
                if (upTo(3) == 0) dear(x, m);
            }
            state(x, m);
        }
    }

    /** The largest barns, by all kinds, with the dearest numbers. */
    static void largest() {
        for (int k = 0; k < 6; k++) {
            RatsEat x = made();
            Model m = new Model();
            String text = "s" + k % 3 + ";r" + (k + 1) % 4 + "," + (2 + k) + ";w0,1;";
            for (int b = 0; b < 8; b++) text = "b" + upTo(99) + "," + upTo(1) + ";" + text;
            writeBoth(x, m, text + "c0,60;c0,9;c1,30;c2,5;");
            same("lay", x.lay(), m.lay());
            same("order 20 of 8", x.order(3, -1), m.order(3, -1));
            for (int b = 0; b < 8; b++) same("order of 8 " + b, x.order(1, b), m.order(1, b));
            for (int c = 0; c < 4; c++) same("corn of 8 " + c, x.corn(4, c), m.corn(4, c));
            for (int w = 0; w < 4; w++) same("pours of 8 " + w, x.pours(2, 2, w), m.pours(2, 2, w));
            same("moves", x.moves(0), m.moves(0));
        }
    }

    public static void main(String[] args) {
        for (int k = 0; k < 120; k++) runOf(3, 5);
        for (int k = 0; k < 120; k++) runOf(3, 4);
        for (int k = 0; k < 12; k++) runOf(1, 8);
        largest();
        System.out.println(calls + " calls against the model, " + wrong + " answers are not as due");
        if (mostUsed > 512) System.out.println("an object was used for " + mostUsed + " calls");
        if (wrong != 0 || mostUsed > 512) System.exit(1);
    }
}
