/** The bounds of the barn: bins, gaps, walls, a night and a pour (promises 6 to 9). */
public final class BarnBounds extends Checks {
    private static RatsEat ofBins(int n, int kind) {
        return laid("b5,0;".repeat(n) + "s" + kind + ";");
    }

    // ---- promise 6

    private static void binNumbers() {
        sentence("Of a BIN. BAD (BINS: such as there are)");
        for (int n = 1; n <= 8; n++) {
            int bins = n;
            bounds("bin of " + n, () -> ofBins(bins, 0), 0, n - 1, (x, i) -> x.bin(i, 0));
            bounds("owner of " + n, () -> ofBins(bins, 0), 0, n - 1, (x, i) -> x.bin(i, 1));
        }
        badBeside("bin", Checks::lively, 0, 2, (x, i) -> x.bin(i, 0));
        due("8 bins, as many as can be", ofBins(8, 0).bin(8, 0), BAD);
    }

    private static void binWhat() {
        sentence("pecks (what = 0), OWNER (1). BAD");
        RatsEat x = laid("b3,1;b1,0;");
        due("pecks", x.bin(0, 0), 3);
        due("owner", x.bin(0, 1), 1);
        due("pecks of 1", x.bin(1, 0), 1);
        due("owner of 1", x.bin(1, 1), 0);
        badBeside("what", Checks::lively, 0, 1, (y, what) -> y.bin(0, what));
    }

    // ---- promise 7

    private static void gapNumbers() {
        sentence("Of a GAP (by number). BAD");
        for (int kind = 0; kind <= 2; kind++) {
            for (int n = 2; n <= 8; n++) {
                int bins = n;
                int by = kind;
                int gaps = ofBins(n, kind).count(1);
                for (int what = 0; what <= 2; what++) {
                    int w = what;
                    bounds("gap of " + n, () -> ofBins(bins, by), 0, gaps - 1, (x, g) -> x.gap(g, w));
                }
            }
        }
        badBeside("gap", Checks::lively, 0, 2, (x, g) -> x.gap(g, 2));
    }

    private static void noGap() {
        sentence("GAPS are pairs of BINS that touch (one BIN has none)");
        for (int kind = 0; kind <= 2; kind++) {
            int by = kind;
            due("gaps of one bin", ofBins(1, kind).count(1), 0);
            still("gap 0 of one bin", () -> ofBins(1, by), BAD, x -> x.gap(0, 0));
            still("gap -1 of one bin", () -> ofBins(1, by), BAD, x -> x.gap(-1, 0));
        }
    }

    private static void gapWhat() {
        sentence("I (what = 0), J (1), 1 if a WALL is there (2). BAD");
        badBeside("what", Checks::lively, 0, 2, (x, what) -> x.gap(0, what));
        RatsEat x = laid("b5,0;b5,0;b5,0;w2,1;");
        due("I", x.gap(1, 0), 1);
        due("J", x.gap(1, 1), 2);
        due("a wall", x.gap(1, 2), 1);
        due("none", x.gap(0, 2), 0);
    }

    /** Gaps as they are told: two figures each. */
    private static void gaps(int n, int kind, String told) {
        RatsEat x = ofBins(n, kind);
        String[] pairs = told.isEmpty() ? new String[0] : told.split(" ");
        due("gaps of " + n + " by " + kind, x.count(1), pairs.length);
        for (int g = 0; g < pairs.length; g++) {
            due("gap " + g + " of " + n + " by " + kind + ": I", x.gap(g, 0), pairs[g].charAt(0) - '0');
            due("gap " + g + " of " + n + " by " + kind + ": J", x.gap(g, 1), pairs[g].charAt(1) - '0');
        }
    }

    private static void rowGaps() {
        sentence("ROW each and the next one");
        String[] told = {"", "01", "01 12", "01 12 23", "01 12 23 34", "01 12 23 34 45", "01 12 23 34 45 56",
            "01 12 23 34 45 56 67"};
        for (int n = 1; n <= 8; n++) {
            gaps(n, 0, told[n - 1]);
        }
    }

    private static void ringGaps() {
        sentence("RING so, and the first and the last (of 3 or more), by I, then J");
        String[] told = {"", "01", "01 02 12", "01 03 12 23", "01 04 12 23 34", "01 05 12 23 34 45",
            "01 06 12 23 34 45 56", "01 07 12 23 34 45 56 67"};
        for (int n = 1; n <= 8; n++) {
            gaps(n, 1, told[n - 1]);
        }
    }

    private static void twoRowGaps() {
        sentence("TWO ROWS, of n BINS the first h (n and 1, together, by 2, cut) in the one, if there is one");
        String[] told = {"", "01", "01 02", "01 02 13 23", "01 03 12 14 34", "01 03 12 14 25 34 45",
            "01 04 12 15 23 26 45 56", "01 04 12 15 23 26 37 45 56 67"};
        for (int n = 1; n <= 8; n++) {
            gaps(n, 2, told[n - 1]);
        }
    }

    private static void wallBetween() {
        sentence("a WALL between BINS I and J, either way round");
        due("w0,1", laid("b9,0;b0,0;w0,1;").gap(0, 2), 1);
        due("w1,0", laid("b9,0;b0,0;w1,0;").gap(0, 2), 1);
        due("w1,0: lost", laid("b9,0;b0,0;w1,0;").lost(60, -1), 0);
        due("twice", laid("b9,0;b0,0;w1,0;w0,1;").gap(0, 2), 1);
        due("told ahead of the kind", laid("b9,0;b9,0;b0,0;w0,2;s1;").gap(1, 2), 1);
        due("of the ring", laid("b9,0;b9,0;b0,0;w0,2;s1;").lost(1, -1), 9);
        due("across two rows", laid("b9,0;b9,0;b0,0;b0,0;s2;w2,0;").gap(1, 2), 1);
        due("a wall beside it is none", laid("b9,0;b9,0;b0,0;b0,0;s2;w2,0;").gap(2, 2), 0);
    }

    private static void wallApart() {
        sentence("a WALL where they do not touch does nothing");
        RatsEat x = laid("b9,0;b0,0;b5,0;w0,2;");
        due("it is told", x.count(2), 1);
        due("gaps", x.count(1), 2);
        due("gap 0", x.gap(0, 2), 0);
        due("gap 1", x.gap(1, 2), 0);
        due("lost", x.lost(1, -1), 14);
        due("in two rows", laid("b9,0;b0,0;b5,0;s2;w1,2;").lost(1, -1), 9);
    }

    private static void wallsEight() {
        sentence("WALLS, 8 at most: each of the eight is there");
        String walls = "w0,1;w0,4;w1,2;w1,5;w2,3;w2,6;w3,7;w4,5;";
        RatsEat x = laid("b9,0;b0,0;b9,0;b0,0;b8,0;b1,0;b6,0;b6,0;s2;" + walls);
        for (int g = 0; g < 10; g++) {
            due("wall at " + g, x.gap(g, 2), g < 8 ? 1 : 0);
        }
        due("lost beside them", x.lost(1, -1), 5);
    }

    // ---- promise 8

    /** What is lost in a night between d and nothing, either one being the fuller. */
    private static void takes(String rats, int d, int want) {
        due(rats + " of " + d, laid("b" + d + ",0;b0,0;" + rats).night(), want);
        due(rats + " of " + d + ", the other way", laid("b0,0;b" + d + ",0;" + rats).night(), want);
    }

    private static void allTake() {
        sentence("ALL d");
        int[] ds = {0, 1, 2, 98, 99};
        for (int d : ds) {
            takes("r0,0;", d, d);
            takes("r0,30;", d, d);
        }
    }

    private static void halfTake() {
        sentence("HALF d by 2, cut");
        int[] ds = {0, 1, 2, 3, 4, 98, 99};
        int[] want = {0, 0, 1, 1, 2, 49, 49};
        for (int k = 0; k < ds.length; k++) {
            takes("r1,0;", ds[k], want[k]);
            takes("r1,30;", ds[k], want[k]);
        }
    }

    private static void overTake() {
        sentence("OVER V d less V, 0 at least");
        for (int v = 0; v <= 30; v++) {
            takes("r2," + v + ";", v, 0);
            takes("r2," + v + ";", v + 1, 1);
            takes("r2," + v + ";", 99, 99 - v);
            takes("r2," + v + ";", 0, 0);
            if (v > 0) {
                takes("r2," + v + ";", v - 1, 0);
            }
        }
    }

    private static void moonTakes() {
        sentence("MOON V d, if t modulo 7 is V modulo 7, else d by 3, cut");
        int[] ds = {0, 1, 2, 3, 4, 5, 6, 98, 99};
        int[] want = {0, 0, 0, 1, 1, 1, 2, 32, 33};
        for (int k = 0; k < ds.length; k++) {
            takes("r3,0;", ds[k], ds[k]);
            takes("r3,7;", ds[k], ds[k]);
            takes("r3,28;", ds[k], ds[k]);
            takes("r3,1;", ds[k], want[k]);
            takes("r3,6;", ds[k], want[k]);
            takes("r3,27;", ds[k], want[k]);
            takes("r3,29;", ds[k], want[k]);
        }
    }

    /** Two pecks of difference: they are gone with a moon and stay without. */
    private static void moonNights() {
        sentence("t modulo 7 is V modulo 7, NIGHT by NIGHT, V 0 to 30");
        for (int v = 0; v <= 30; v++) {
            RatsEat x = laid("b2,0;b0,0;b99,0;w1,2;r3," + v + ";");
            for (int t = 0; t < 30; t++) {
                boolean moon = t % 7 == v % 7;
                due("moon " + v + " in night " + t, x.night(), moon ? 2 : 0);
                if (moon) {
                    x.pour(2, 0, 2);
                }
            }
        }
    }

    private static void asAtDusk() {
        sentence("d is how much more the one has (as it was at dusk); gone from the one that was fuller at dusk");
        RatsEat x = laid("b0,0;b9,0;b5,0;");
        due("0, 9, 5", x.night(), 9);
        bins("0, 9, 5", x, 0, 0, 5);
        x = laid("b9,0;b5,0;b0,0;");
        due("9, 5, 0", x.night(), 9);
        bins("9, 5, 0", x, 5, 0, 0);
        x = laid("b5,0;b9,0;b6,0;s1;");
        due("5, 9, 6 in a ring", x.night(), 8);
        bins("5, 9, 6 in a ring", x, 5, 2, 5);
    }

    private static void noMoreThanIn() {
        sentence("no more than are still in it");
        RatsEat x = laid("b5,0;b8,0;b4,0;");
        due("one fewer than in it", x.night(), 7);
        bins("one fewer than in it", x, 5, 1, 4);
        x = laid("b4,0;b8,0;b4,0;");
        due("as many as in it", x.night(), 8);
        bins("as many as in it", x, 4, 0, 4);
        x = laid("b3,0;b8,0;b4,0;");
        due("one more than in it", x.night(), 8);
        bins("one more than in it", x, 3, 0, 4);
        x = laid("b0,0;b99,0;b0,0;b0,0;b0,0;b0,0;b0,0;b0,0;s2;");
        due("three times what is in it", x.night(), 99);
        bins("three times what is in it", x, 0, 0, 0, 0, 0, 0, 0, 0);
    }

    private static void nothingToTake() {
        sentence("d is how much more the one has than the other (none: nothing is gone)");
        for (int kind = 0; kind <= 3; kind++) {
            RatsEat x = laid("b7,0;b7,0;b7,0;s1;r" + kind + ",0;");
            due("alike", x.night(), 0);
            bins("alike", x, 7, 7, 7);
            due("an empty barn", laid("b0,0;b0,0;r" + kind + ",0;").night(), 0);
            due("one bin", laid("b9,0;r" + kind + ",0;").night(), 0);
        }
    }

    private static void withoutWall() {
        sentence("for each GAP, without WALL");
        RatsEat x = laid("b9,0;b0,0;b5,0;w0,1;");
        due("one wall", x.night(), 5);
        bins("one wall", x, 9, 0, 0);
        due("walls everywhere", laid("b9,0;b0,0;b5,0;w0,1;w1,2;").night(), 0);
    }

    private static void nightGoesOn() {
        sentence("THE BARN goes on NIGHT by NIGHT");
        RatsEat x = laid("b99,0;b0,0;b0,0;r1,0;");
        int[] lost = {49, 25, 12, 6, 3, 2, 1, 0, 0};
        for (int t = 0; t < lost.length; t++) {
            due("the night ahead", x.count(4), t);
            due("lost in night " + t, x.night(), lost[t]);
        }
        bins("behind them", x, 1, 0, 0);
        due("the night", x.count(4), 9);
    }

    private static void cornStaysAway() {
        sentence("CORN that is told does not come by itself");
        RatsEat x = laid("b5,0;b5,0;c0,9;c1,60;");
        due("night 0", x.night(), 0);
        due("night 1", x.night(), 0);
        bins("behind them", x, 5, 5);
        due("it is told yet", x.count(3), 2);
        due("left", x.left(0, 9), 5);
        due("lost", x.lost(9, -1), 0);
    }

    // ---- promise 9

    private static RatsEat toPour() {
        RatsEat x = laid("b99,0;b99,0;b99,1;");
        x.pour(1, 0, 99);
        write(x, "b1,0;");
        x.keep();
        return x;
    }

    private static void pourNumbers() {
        sentence("n pecks (1 to 99)");
        due("1", toPour().pour(0, 1, 1), 1);
        due("99", toPour().pour(0, 1, 99), 99);
        badBeside("pour of", BarnBounds::toPour, 1, 99, (x, n) -> x.pour(0, 1, n));
        still("pour of 100, though they are there", BarnBounds::toPour, BAD, x -> x.pour(0, 1, 100));
    }

    private static void pourBins() {
        sentence("from BIN i into BIN j. BAD (BINS: such as there are)");
        badBeside("from", BarnBounds::toPour, 0, 2, (x, i) -> x.pour(i, 1, 1));
        badBeside("into", BarnBounds::toPour, 0, 2, (x, j) -> x.pour(0, j, 1));
        due("the last into the first", laid("b1,0;".repeat(8)).pour(7, 0, 1), 2);
        due("the first into the last", laid("b1,0;".repeat(8)).pour(0, 7, 1), 2);
        badBeside("from, of 8", () -> ofBins(8, 1), 0, 7, (x, i) -> x.pour(i, 3, 1));
        badBeside("into, of 8", () -> ofBins(8, 1), 0, 7, (x, j) -> x.pour(3, j, 1));
    }

    private static void pourTwice() {
        sentence("BAD (one twice, too)");
        for (int b = 0; b < 3; b++) {
            int i = b;
            still("from and into " + b, BarnBounds::toPour, BAD, x -> x.pour(i, i, 1));
        }
        still("one bin", () -> ofBins(1, 0), BAD, x -> x.pour(0, 0, 1));
        still("one bin and none", () -> ofBins(1, 0), BAD, x -> x.pour(0, 1, 1));
    }

    private static void pourTooMany() {
        sentence("NO: not so many");
        RatsEat x = laid("b5,0;b0,0;");
        due("all of them", x.pour(0, 1, 5), 5);
        bins("all of them", x, 0, 5);
        still("one more than are there", () -> laid("b5,0;b0,0;"), NO, y -> y.pour(0, 1, 6));
        still("out of an empty one", () -> laid("b5,0;b0,0;"), NO, y -> y.pour(1, 0, 1));
        still("99 out of 98", () -> laid("b98,0;b0,0;"), NO, y -> y.pour(0, 1, 99));
    }

    private static void pourAbove() {
        sentence("NO: above 199 (199 at most in one)");
        RatsEat x = laid("b99,0;b99,0;b99,0;");
        x.pour(0, 1, 99);
        due("up to 199", x.pour(2, 1, 1), 199);
        bins("up to 199", x, 0, 199, 98);
        still("up to 200", () -> {
            RatsEat y = laid("b99,0;b99,0;b99,0;");
            y.pour(0, 1, 99);
            return y;
        }, NO, y -> y.pour(2, 1, 2));
        still("199 and 1", () -> {
            RatsEat y = laid("b99,0;b99,0;b99,0;");
            y.pour(0, 1, 99);
            y.pour(2, 1, 1);
            return y;
        }, NO, y -> y.pour(2, 1, 1));
        due("199 goes down", x.pour(1, 0, 1), 1);
        due("and up again", x.pour(0, 1, 1), 199);
    }

    private static void pourAnswer() {
        sentence("how many are there then");
        RatsEat x = laid("b5,1;b7,0;b9,0;w0,1;w1,2;");
        due("0 into 2, which do not touch", x.pour(0, 2, 3), 12);
        bins("poured", x, 2, 7, 12);
        due("pecks in all", x.count(5), 21);
        due("the night", x.count(4), 0);
        due("owner of 2", x.bin(2, 1), 0);
    }

    private static void theBarn() {
        binNumbers();
        binWhat();
        gapNumbers();
        noGap();
        gapWhat();
        rowGaps();
        ringGaps();
        twoRowGaps();
        wallBetween();
        wallApart();
        wallsEight();
    }

    private static void aNight() {
        allTake();
        halfTake();
        overTake();
        moonTakes();
        moonNights();
        asAtDusk();
        noMoreThanIn();
        nothingToTake();
        withoutWall();
        nightGoesOn();
        cornStaysAway();
    }

    private static void aPour() {
        pourNumbers();
        pourBins();
        pourTwice();
        pourTooMany();
        pourAbove();
        pourAnswer();
    }

    public static void main(String[] args) {
        theBarn();
        aNight();
        aPour();
        end();
    }
}
