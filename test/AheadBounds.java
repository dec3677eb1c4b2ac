/** The bounds of what was ahead, of other rats and draws, of what is kept and counted (promises 18 to 24). */
public final class AheadBounds extends Checks {
    // ---- promise 18

    private static void was(String text, int m, int t, int... want) {
        for (int i = -1; i < want.length - 1; i++) {
            int at = i;
            still("was(" + m + ", " + t + ", " + i + ") of " + text, () -> laid(text), want[i + 1], x -> x.was(m, t, at));
        }
    }

    private static void wasNumbers() {
        sentence("WAS: rows of amounts (0 to m each, m 0 to 20). BAD");
        bounds("was up to", Checks::lively, 0, 20, (x, m) -> x.was(m, 0, -1));
        badBeside("was of 0 up to", Checks::lively, 0, 20, (x, m) -> x.was(m, 0, 0));
        sentence("one NIGHT t (0 to 6). BAD");
        bounds("was in", Checks::lively, 0, 6, (x, t) -> x.was(5, t, -1));
        sentence("how many (i = -1), the i-th BIN of the first. BAD");
        for (int n = 1; n <= 4; n++) {
            String text = "b0,0;".repeat(n);
            bounds("was of " + n + ", bin", () -> laid(text), -1, n - 1, (x, i) -> x.was(3, 0, i));
        }
    }

    private static void wasUpToM() {
        sentence("amounts (0 to m each)");
        // 0 and 0 comes of one that is empty and any other one.
        for (int m = 0; m <= 20; m++) {
            was("b0,0;b0,0;", m, 0, 2 * m + 1, 0, 0);
        }
        was("b5,0;b5,0;", 5, 0, 1, 5, 5);
        was("b5,0;b5,0;", 6, 0, 3, 5, 5);
        was("b20,0;b20,0;", 20, 0, 1, 20, 20);
        was("b20,0;b20,0;b20,0;b20,0;", 20, 0, 1, 20, 20, 20, 20);
        was("b0,0;b0,0;w0,1;", 0, 0, 1, 0, 0);
    }

    private static void wasNone() {
        sentence("WAS: none. NONE (how many: 0)");
        was("b5,0;b5,0;", 4, 0, 0, NONE, NONE);
        was("b21,0;b21,0;", 20, 0, 0, NONE, NONE);
        was("b9,0;b0,0;", 20, 0, 0, NONE, NONE);
        was("b99,0;", 20, 6, 0, NONE);
        was("b1,0;", 0, 0, 0, NONE);
    }

    private static void wasFourBins() {
        sentence("NO: more than 4 BINS");
        was("b1,0;b1,0;b1,0;b1,0;w0,1;w1,2;w2,3;", 20, 0, 1, 1, 1, 1, 1);
        for (int n = 5; n <= 8; n++) {
            String text = "b0,0;".repeat(n);
            still("how many of " + n, () -> laid(text), NO, x -> x.was(0, 0, -1));
            for (int i = 0; i < n; i++) {
                int at = i;
                still("the bin of " + n, () -> laid(text), NO, x -> x.was(20, 6, at));
            }
        }
    }

    private static void wasNight() {
        sentence("one NIGHT t makes what THE BARN has now (MOON by t, not by the NIGHT that is next)");
        for (int v = 0; v <= 30; v++) {
            for (int t = 0; t <= 6; t++) {
                // Without a moon 2 beside 0 comes of 2 and of 3; with a moon of nothing.
                was("b2,0;b0,0;r3," + v + ";", 20, t, t == v % 7 ? 0 : 2);
            }
        }
        RatsEat x = laid("b2,0;b0,0;r3,5;");
        for (int k = 0; k < 5; k++) {
            due("in night " + k, x.was(20, 5, -1), 0);
            due("in night " + k + ", of another t", x.was(20, 4, -1), 2);
            x.night();
        }
    }

    private static void wasFirst() {
        sentence("the first (by BIN 0, lower ahead, then 1, ..)");
        was("b3,0;b3,0;", 9, 0, 13, 3, 3);
        // By half 3 beside 1 comes of 4 (3 by 2 is 1) and of 5 (4 by 2 is 2), not of 3 (2 by 2 is 1).
        was("b3,0;b1,0;r1,0;", 20, 0, 2, 4, 1);
        was("b1,0;b3,0;r1,0;", 20, 0, 2, 1, 4);
        // Two such pairs apart: each comes of two.
        was("b3,0;b1,0;b3,0;b1,0;w1,2;r1,0;", 20, 0, 4, 4, 1, 4, 1);
        was("b1,0;b3,0;b1,0;b3,0;w1,2;r1,0;", 5, 0, 4, 1, 4, 1, 4);
        was("b1,0;b3,0;b1,0;b3,0;w1,2;r1,0;", 4, 0, 1, 1, 4, 1, 4);
        // All but those in which one that is not empty has no lower one beside it.
        was("b0,0;b0,0;b0,0;", 1, 0, 5, 0, 0, 0);
    }

    // ---- promise 19

    private static void othersNumbers() {
        sentence("BY OTHERS (KIND 0 to 3). BAD");
        bounds("others of", Checks::lively, 0, 3, (x, kind) -> x.others(kind, 1));
        badBeside("others of, in no night,", Checks::lively, 0, 3, (x, kind) -> x.others(kind, 0));
        sentence("BY OTHERS (n 0 to 60). BAD");
        bounds("others in", Checks::lively, 0, 60, (x, n) -> x.others(2, n));
        still("in 0", () -> laid(RING + "r1,0;"), 0, x -> x.others(0, 0));
        still("in 59", () -> laid(RING + "r1,0;"), 118, x -> x.others(0, 59));
        still("in 60", () -> laid(RING + "r1,0;"), 120, x -> x.others(0, 60));
        still("in 60 by half", () -> laid(RING), 0, x -> x.others(1, 60));
    }

    private static void othersAsTold() {
        sentence("by a KIND of RATS (V as told)");
        int[] want = {50, 25, 20, 16};
        for (int told = 0; told <= 3; told++) {
            String text = "b50,0;b0,0;r" + told + ",30;";
            for (int kind = 0; kind <= 3; kind++) {
                int by = kind;
                still(text + " by " + kind, () -> laid(text), want[kind], x -> x.others(by, 1));
            }
        }
        due("V 0 without", laid("b50,0;b0,0;").others(2, 1), 50);
    }

    private static void othersFromNow() {
        sentence("BY OTHERS in n NIGHTS from now on");
        // By half a difference of one stays, by a moon it goes.
        RatsEat x = laid("b1,0;b0,0;r1,3;");
        for (int t = 0; t <= 3; t++) {
            due("ahead of the moon", x.others(3, 3 - t), 0);
            due("with the moon", x.others(3, 4 - t), 1);
            x.night();
        }
        due("behind the moon", x.others(3, 6), 0);
        due("up to the next one", x.others(3, 7), 1);
    }

    // ---- promise 20

    private static int amount(int z, int i) {
        long x = 7919L * z + 6151L * i + 1;
        return (int) (x * x % 65521 % 100);
    }

    private static void drawnNumbers() {
        sentence("A DRAW by z (0 to 9999). BAD");
        bounds("drawn by", Checks::lively, 0, 9999, (x, z) -> x.drawn(z, 1));
        badBeside("drawn in no night by", Checks::lively, 0, 9999, (x, z) -> x.drawn(z, 0));
        sentence("A DRAW: LOST in n NIGHTS (0 to 60). BAD");
        bounds("drawn in", Checks::lively, 0, 60, (x, n) -> x.drawn(0, n));
        // These two by the slow model: something is lost in the sixtieth night, with a moon.
        still("in 59", () -> laid("b0,0;b0,0;b0,0;b0,0;s1;r3,3;"), 166, x -> x.drawn(271, 59));
        still("in 60", () -> laid("b0,0;b0,0;b0,0;b0,0;s1;r3,3;"), 170, x -> x.drawn(271, 60));
        still("in 0", () -> laid("b9,0;b0,0;"), 0, x -> x.drawn(0, 0));
    }

    private static void drawnAmounts() {
        sentence("BIN i has ((x times x) modulo 65521) modulo 100 pecks, x being 7919 z, 6151 i and 1 together");
        RatsEat x = laid("b9,0;b0,0;");
        // x is 1 and 6152: 1, and 37847104 modulo 65521 is 41487: 87.
        due("z 0", x.drawn(0, 1), 86);
        for (int z = 0; z <= 9999; z++) {
            x = z % 500 == 0 ? laid("b9,0;b0,0;") : x;
            due("z " + z, x.drawn(z, 1), Math.abs(amount(z, 0) - amount(z, 1)));
        }
        int[] zs = {0, 1, 4999, 9998, 9999};
        for (int b = 1; b < 8; b++) {
            RatsEat y = laid("b0,0;".repeat(8) + wallsBut(b));
            for (int z : zs) {
                due("bins " + (b - 1) + " and " + b + " by " + z, y.drawn(z, 1), Math.abs(amount(z, b - 1) - amount(z, b)));
            }
        }
    }

    /** Walls in a row of eight everywhere but below bin b. */
    private static String wallsBut(int b) {
        StringBuilder s = new StringBuilder();
        for (int i = 1; i < 8; i++) {
            s.append(i == b ? "" : "w" + (i - 1) + "," + i + ";");
        }
        return s.toString();
    }

    private static void drawnFromNext() {
        sentence("A DRAW: LOST in n NIGHTS from the one that is next on");
        RatsEat x = laid("b5,0;b5,0;r3,2;");
        due("night 0", x.drawn(0, 1), 28);
        x.night();
        due("night 1", x.drawn(0, 1), 28);
        x.night();
        due("night 2, with a moon", x.drawn(0, 1), 86);
        x.night();
        due("night 3", x.drawn(0, 1), 28);
        due("one bin", laid("b5,0;").drawn(0, 60), 0);
    }

    // ---- promise 21

    private static int tenOfTwo(int z) {
        int more = 0;
        for (int k = 0; k < 10; k++) {
            int one = amount((z + k) % 10000, 0);
            int other = amount((z + k) % 10000, 1);
            more += 2 * Math.abs(one - other) > one + other ? 1 : 0;
        }
        return more;
    }

    private static void tenNumbers() {
        sentence("TEN (z 0 to 9999). BAD");
        bounds("ten from", Checks::lively, 0, 9999, (x, z) -> x.ten(z, 1));
        sentence("TEN (n 0 to 60). BAD");
        bounds("ten in", Checks::lively, 0, 60, (x, n) -> x.ten(0, n));
        // These two by the slow model.
        still("in 59", () -> laid("b0,0;b0,0;b0,0;b0,0;s2;r3,10;w3,0;"), 5, x -> x.ten(204, 59));
        still("in 60", () -> laid("b0,0;b0,0;b0,0;b0,0;s2;r3,10;w3,0;"), 6, x -> x.ten(204, 60));
        still("in 0", () -> laid("b9,0;b0,0;"), 0, x -> x.ten(0, 0));
    }

    private static void tenRound() {
        sentence("TEN: of ten (z, z and 1, .. modulo 10000)");
        RatsEat x = laid("b9,0;b0,0;");
        for (int z = 9980; z <= 9999; z++) {
            due("ten from " + z, x.ten(z, 1), tenOfTwo(z));
        }
        for (int z = 0; z < 20; z++) {
            due("ten from " + z, x.ten(z, 1), tenOfTwo(z));
        }
        due("the last without a turn", x.ten(9990, 1), 5);
        due("the first with a turn", x.ten(9991, 1), 6);
        due("the last one", x.ten(9999, 1), 5);
    }

    private static void tenHalf() {
        sentence("TEN: in how many more than half of all the pecks is LOST (half is not more)");
        due("the one of 103", amount(103, 0), 99);
        due("the other one of 103", amount(103, 1), 33);
        RatsEat x = laid("b9,0;b0,0;");
        for (int z = 80; z <= 170; z++) {
            due("ten from " + z, x.ten(z, 1), tenOfTwo(z));
        }
        due("nothing lost", laid("b9,0;").ten(0, 60), 0);
        due("all apart", laid("b9,0;b9,0;w0,1;").ten(0, 60), 0);
    }

    private static void tenFromNext() {
        sentence("TEN: from the NIGHT that is next on");
        RatsEat x = laid("b5,0;b5,0;r3,1;");
        due("no moon: a third is not half", x.ten(9995, 1), 0);
        x.night();
        due("a moon", x.ten(9995, 1), tenOfTwo(9995));
    }

    // ---- promises 22 and 23

    private static RatsEat keptTwice() {
        RatsEat x = laid("b5,0;b9,1;b2,0;");
        x.keep();
        x.night();
        x.keep();
        x.pour(0, 1, 2);
        x.night();
        return x;
    }

    private static void keepAtMost() {
        sentence("KEPT: how many (2 at most). FULL");
        RatsEat x = laid("b5,0;b9,1;b2,0;");
        due("kept at first", x.count(7), 0);
        due("the first", x.keep(), 1);
        due("the second", x.keep(), 2);
        still("a third", AheadBounds::keptTwice, FULL, y -> y.keep());
        x.back();
        due("room again", x.keep(), 2);
        due("and none again", x.keep(), FULL);
    }

    private static void keptAmounts() {
        sentence("KEPT are amounts and the NIGHT");
        RatsEat x = keptTwice();
        bins("now", x, 2, 2, 2);
        due("the night now", x.count(4), 2);
        due("back", x.back(), 1);
        bins("the second", x, 5, 0, 2);
        due("the night of the second", x.count(4), 1);
        due("back again", x.back(), 0);
        bins("the first", x, 5, 9, 2);
        due("the night of the first", x.count(4), 0);
        x.pour(1, 0, 9);
        due("kept anew", x.keep(), 1);
        x.night();
        x.back();
        bins("as kept anew", x, 14, 0, 2);
    }

    private static void backEmpty() {
        sentence("how many are left. NO");
        still("at first", RatsEat::new, NO, x -> x.back());
        still("behind the last", () -> {
            RatsEat x = keptTwice();
            x.back();
            x.back();
            return x;
        }, NO, x -> x.back());
    }

    private static void backOnce() {
        sentence("As KEPT last (it is KEPT no more then)");
        RatsEat x = laid("b5,0;b9,1;b2,0;");
        x.keep();
        due("back", x.back(), 0);
        due("kept", x.count(7), 0);
        due("back again", x.back(), NO);
        due("kept anew", x.keep(), 1);
    }

    private static void keptStays() {
        sentence("KEPT stays by write, wipe, fault, night and pour, and goes by lay alone");
        RatsEat x = keptTwice();
        x.wipe();
        write(x, "b1,0;");
        x.fault();
        x.night();
        due("kept", x.count(7), 2);
        x.lay();
        due("kept behind a lay", x.count(7), 0);
        due("back behind a lay", x.back(), NO);
        bins("laid", x, 1);
    }

    // ---- promise 24

    private static void countWhat() {
        sentence("How many: 0 BINS, 1 GAPS, 2 WALLS told, 3 CORN told, 4 the NIGHT, 5 pecks in all, 6 bytes, 7 KEPT. BAD");
        badBeside("count", Checks::lively, 0, 7, (x, what) -> x.count(what));
        RatsEat x = laid("b5,0;b9,1;b2,0;s1;w0,1;w1,0;w0,1;w0,2;c0,1;c0,2;c3,3;");
        x.night();
        x.keep();
        write(x, "x");
        int[] want = {3, 3, 4, 3, 1, 9, 54, 1};
        for (int what = 0; what < 8; what++) {
            due("count " + what, x.count(what), want[what]);
        }
    }

    private static void countMost() {
        sentence("How many: the most of each");
        RatsEat x = laid("b99,0;".repeat(8) + "s2;" + "w0,1;".repeat(8) + "c30,60;".repeat(4) + "s2;".repeat(60));
        x.keep();
        x.keep();
        int[] want = {8, 10, 8, 4, 0, 792, 299, 2};
        for (int what = 0; what < 8; what++) {
            due("count " + what, x.count(what), want[what]);
        }
        x.write(1, ';');
        due("bytes", x.count(6), 300);
    }

    private static void countLeast() {
        sentence("How many: the fewest of each");
        RatsEat x = laid("b0,0;");
        x.wipe();
        int[] want = {1, 0, 0, 0, 0, 0, 0, 0};
        for (int what = 0; what < 8; what++) {
            due("count " + what, x.count(what), want[what]);
        }
    }

    // ---- the document's limit

    private static void mostCalls() {
        sentence("An object is used for at most 512 calls after it has been made (the last of these, too)");
        RatsEat x = new RatsEat();
        for (int k = 0; k < 511; k++) {
            x.night();
        }
        due("behind 511 nights", x.count(4), 511);
        x = new RatsEat();
        for (int k = 0; k < 511; k++) {
            x.write(1, 's');
        }
        due("behind 511 bytes, 300 of them taken", x.wipe(), 300);
        x = new RatsEat();
        for (int k = 0; k < 511; k++) {
            x.keep();
        }
        due("behind 511, 2 of them kept", x.back(), 1);
    }

    private static void mostNights() {
        sentence("At most 512 calls: 791 pecks go by two a night, and the last one alone");
        RatsEat x = laid(RING);
        int used = (RING.length() + 7) / 8 + 1;
        for (int t = 0; t < 512 - used; t++) {
            due("night " + t, x.night(), t < 395 ? 2 : t == 395 ? 1 : 0);
        }
    }

    private static void whatWas() {
        wasNumbers();
        wasUpToM();
        wasNone();
        wasFourBins();
        wasNight();
        wasFirst();
    }

    private static void othersAndDraws() {
        othersNumbers();
        othersAsTold();
        othersFromNow();
        drawnNumbers();
        drawnAmounts();
        drawnFromNext();
        tenNumbers();
        tenRound();
        tenHalf();
        tenFromNext();
    }

    private static void keptAndCounted() {
        keepAtMost();
        keptAmounts();
        backEmpty();
        backOnce();
        keptStays();
        countWhat();
        countMost();
        countLeast();
        mostCalls();
        mostNights();
    }

    public static void main(String[] args) {
        whatWas();
        othersAndDraws();
        keptAndCounted();
        end();
    }
}
