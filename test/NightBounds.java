/** The bounds of nights to come: what is left and lost, the best order, the first exchange (promises 10 to 13). */
public final class NightBounds extends Checks {
    // ---- promise 10

    private static void leftBins() {
        sentence("LEFT of a BIN. BAD (BINS: such as there are)");
        bounds("left of", Checks::lively, 0, 2, (x, i) -> x.left(i, 1));
        bounds("left of one bin", () -> laid("b5,0;"), 0, 0, (x, i) -> x.left(i, 1));
        bounds("left of eight", () -> laid(RING), 0, 7, (x, i) -> x.left(i, 1));
    }

    private static void leftNights() {
        sentence("LEFT behind n NIGHTS (0 to 60) from now on. BAD");
        badBeside("left behind", Checks::lively, 0, 60, (x, n) -> x.left(0, n));
        still("behind 0", () -> laid(RING), 99, x -> x.left(4, 0));
        still("behind 3", () -> laid(RING), 99, x -> x.left(4, 3));
        still("behind 4", () -> laid(RING), 97, x -> x.left(4, 4));
        still("behind 59", () -> laid(RING), 85, x -> x.left(4, 59));
        still("behind 60", () -> laid(RING), 83, x -> x.left(4, 60));
        RatsEat x = laid(RING);
        for (int t = 0; t < 60; t++) {
            x.night();
        }
        due("60 nights on", x.bin(4, 0), 83);
        due("60 more behind them", x.left(0, 60), 68);
        due("60 more behind them, beside it", x.left(1, 60), 69);
    }

    // ---- promise 11

    private static void lostNights() {
        sentence("LOST in n NIGHTS (0 to 60). BAD");
        badBeside("lost in", Checks::lively, 0, 60, (x, n) -> x.lost(n, -1));
        for (int n = 0; n <= 60; n++) {
            due("lost in " + n, laid(RING).lost(n, -1), 2 * n);
        }
        still("lost in 0", Checks::lively, 0, x -> x.lost(0, -1));
        still("lost in 60", () -> laid(RING), 120, x -> x.lost(60, -1));
    }

    private static void lostOwners() {
        sentence("LOST of OWNER o (-1: all). BAD (OWNERS 0, 1)");
        badBeside("lost of", Checks::lively, -1, 1, (x, o) -> x.lost(1, o));
        still("all", () -> laid(RING), 120, x -> x.lost(60, -1));
        still("owner 0", () -> laid(RING), 14, x -> x.lost(60, 0));
        still("owner 1", () -> laid(RING), 106, x -> x.lost(60, 1));
        due("an owner without a bin", laid("b9,0;b0,0;").lost(9, 1), 0);
        due("the other one", laid("b9,0;b0,0;").lost(9, 0), 9);
        due("0 without a bin", laid("b9,1;b0,1;").lost(9, 0), 0);
        due("BAD in 0 nights, too", laid(RING).lost(0, 2), BAD);
    }

    private static void lostFromNow() {
        sentence("LOST from now on (MOON by the NIGHT that is next)");
        for (int v = 0; v < 7; v++) {
            RatsEat x = laid("b2,0;b0,0;r3," + v + ";");
            for (int t = 0; t < v; t++) {
                due("ahead of the moon", x.lost(v - t, -1), 0);
                due("with the moon", x.lost(v - t + 1, -1), 2);
                due("left ahead of the moon", x.left(0, v - t), 2);
                due("left behind it", x.left(0, v - t + 1), 0);
                x.night();
            }
            due("tonight", x.lost(1, -1), 2);
        }
    }

    private static void stillNights() {
        sentence("LOST in n NIGHTS (nothing is lost in one, but in a later one)");
        due("one in each night", laid("b0,0;b1,0;b1,0;b1,0;").lost(60, -1), 3);
        due("one, none, then three", laid("b0,0;b1,0;b1,0;b4,0;r3,2;").lost(3, -1), 4);
        due("six still nights, then a moon", laid("b2,0;b0,0;r3,6;").lost(60, -1), 2);
        due("left behind that moon", laid("b2,0;b0,0;r3,6;").left(0, 60), 0);
        due("a moon in each week", laid("b0,0;b1,0;b2,0;b3,0;b4,0;b5,0;b6,0;b7,0;r3,3;").lost(60, -1), 28);
        due("up to the seventh moon", laid("b0,0;b1,0;b2,0;b3,0;b4,0;b5,0;b6,0;b7,0;r3,3;").lost(45, -1), 27);
        due("with the seventh moon", laid("b0,0;b1,0;b2,0;b3,0;b4,0;b5,0;b6,0;b7,0;r3,3;").lost(46, -1), 28);
    }

    // ---- promise 12

    private static void orderNights() {
        sentence("ORDER for n NIGHTS (1 to 20). BAD");
        badBeside("order for", Checks::lively, 1, 20, (x, n) -> x.order(n, -1));
        badBeside("order for, bin 0,", Checks::lively, 1, 20, (x, n) -> x.order(n, 0));
        due("1", laid(RING).order(1, -1), 2);
        due("19", laid(RING).order(19, -1), 38);
        due("20", laid(RING).order(20, -1), 40);
    }

    private static void orderPlaces() {
        sentence("LOST (i = -1), what is in the i-th. BAD");
        bounds("order of", Checks::lively, -1, 2, (x, i) -> x.order(1, i));
        bounds("order of one", () -> laid("b7,0;"), -1, 0, (x, i) -> x.order(1, i));
        bounds("order of eight", () -> laid(RING), -1, 7, (x, i) -> x.order(1, i));
        due("one bin: lost", laid("b7,0;").order(20, -1), 0);
        due("one bin", laid("b7,0;").order(20, 0), 7);
    }

    private static void order(String text, int n, int lost, int... want) {
        due("order of " + text + ": lost", laid(text).order(n, -1), lost);
        for (int i = 0; i < want.length; i++) {
            int at = i;
            still("order of " + text + " " + i, () -> laid(text), want[i], x -> x.order(n, at));
        }
    }

    private static void orderFirst() {
        sentence("ORDER: of several the first (by what is in BIN 0, lower ahead, then in 1, ..)");
        order("b9,0;b0,0;", 1, 9, 0, 9);
        order("b7,0;b3,0;b5,0;", 1, 4, 3, 5, 7);
        order(RING, 20, 40, 98, 99, 99, 99, 99, 99, 99, 99);
        order("b3,0;b2,0;b1,0;w0,1;w1,2;", 20, 0, 1, 2, 3);
        order("b8,0;b7,0;b6,0;b5,0;b4,0;b3,0;b2,0;b1,0;r1,0;", 1, 0, 1, 2, 3, 4, 5, 6, 7, 8);
        // Bin 0 apart may have any of them; what is in 1 and 2 touches, and 1 beside 2 loses as 2 beside 1.
        order("b9,0;b4,0;b6,0;w0,1;", 1, 2, 9, 4, 6);
    }

    private static void orderAll() {
        sentence("ORDER: of all orders of the amounts that are there now");
        // Only bin 0 is apart: the fullest must stand there, in one of the last orders.
        order("b0,0;".repeat(7) + "b5,0;w0,1;", 20, 0, 5, 0, 0, 0, 0, 0, 0, 0);
        order("b1,0;b2,0;b3,0;b4,0;b5,0;b6,0;b7,0;b99,0;w0,1;", 1, 6, 99, 1, 2, 3, 4, 5, 6, 7);
        order("b5,0;b0,0;w0,1;", 20, 0, 0, 5);
        // Of all 40320 the very last one, by the slow model: the next best ones lose four more.
        order("b9,0;b13,0;b14,0;b30,0;b41,0;b45,0;b46,0;b55,0;s2;w0,1;w0,4;", 2, 131, 55, 46, 45, 41, 30, 14, 13, 9);
        RatsEat x = laid("b0,0;b9,0;b0,0;r0,0;");
        x.pour(1, 0, 4);
        due("poured: lost", x.order(1, -1), 5);
        int[] want = {0, 4, 5};
        for (int i = 0; i < 3; i++) {
            due("poured " + i, x.order(1, i), want[i]);
        }
        x.night();
        due("behind a night: lost", x.order(1, -1), 4);
        due("behind a night", x.order(1, 2), 4);
    }

    private static void orderFromNow() {
        sentence("ORDER for n NIGHTS (from the one that is next)");
        RatsEat x = laid("b2,0;b0,0;b2,0;r3,2;");
        due("two nights without a moon", x.order(2, -1), 0);
        due("with a moon", x.order(3, -1), 2);
        x.night();
        x.night();
        due("a moon tonight", x.order(1, -1), 2);
    }

    // ---- promise 13

    private static void exchangedWhat() {
        sentence("EXCHANGED: I (what = 0), J (1). BAD");
        badBeside("exchanged", Checks::lively, 0, 1, (x, what) -> x.exchanged(what));
        badBeside("exchanged, of one,", () -> laid("b1,0;"), 0, 1, (x, what) -> x.exchanged(what));
    }

    private static void exchanged(String text, int i, int j) {
        still("exchanged of " + text + ": I", () -> laid(text), i, x -> x.exchanged(0));
        still("exchanged of " + text + ": J", () -> laid(text), j, x -> x.exchanged(1));
    }

    private static void exchangedFirst() {
        sentence("EXCHANGED: the first two BINS (I, then J above)");
        exchanged("b5,0;b0,1;b5,0;", 0, 1);
        exchanged("b5,0;b5,0;b0,0;b5,0;", 0, 2);
        exchanged("b0,0;b1,0;b5,0;b3,0;", 2, 3);
        // Within 4 to 9 no change loses less; 10 beside 5 and 4 beside 0 lose 9, where 5 beside 4 and 10 beside 0 lost 11.
        exchanged("b4,0;b5,0;b6,0;b7,0;b8,0;b9,0;b10,0;b0,0;w5,6;", 0, 6);
        exchanged("b1,0;b1,0;b1,0;b1,0;b1,0;b1,0;b3,0;b2,0;", 6, 7);
    }

    private static void exchangedLess() {
        sentence("by the change of which less is LOST (as much is not less)");
        exchanged("b0,0;b5,0;b5,0;", NONE, NONE);
        exchanged("b9,0;b0,0;", NONE, NONE);
        exchanged("b5,0;b5,0;b5,0;s1;", NONE, NONE);
        exchanged("b0,0;b0,0;", NONE, NONE);
        exchanged("b9,0;b0,0;b5,0;w0,1;w1,2;", NONE, NONE);
    }

    private static void exchangedNone() {
        sentence("EXCHANGED: none. NONE");
        exchanged("b7,0;", NONE, NONE);
        exchanged("b1,0;b2,0;b3,0;b4,0;b5,0;b6,0;b7,0;b8,0;", NONE, NONE);
        still("at first", RatsEat::new, NONE, x -> x.exchanged(0));
    }

    private static void exchangedOneNight() {
        sentence("EXCHANGED: LOST in one NIGHT (that is next)");
        RatsEat x = laid("b2,0;b0,0;b2,0;r3,1;");
        due("without a moon", x.exchanged(0), NONE);
        x.night();
        due("with a moon: I", x.exchanged(0), 0);
        due("with a moon: J", x.exchanged(1), 1);
        x.night();
        due("nothing there", x.exchanged(0), NONE);
    }

    public static void main(String[] args) {
        leftBins();
        leftNights();
        lostNights();
        lostOwners();
        lostFromNow();
        stillNights();
        orderNights();
        orderPlaces();
        orderFirst();
        orderAll();
        orderFromNow();
        exchangedWhat();
        exchangedFirst();
        exchangedLess();
        exchangedNone();
        exchangedOneNight();
        end();
    }
}
