/** For each promise of the document ordinary inputs, edges and wrong inputs; the answers are worked out by hand. */
public final class Promises extends Checks {
    private static void gaps(String text, int... want) {
        RatsEat x = laid(text);
        due(text + ": gaps", x.count(1), want.length / 2);
        for (int g = 0; g < want.length / 2; g++) {
            due(text + ": gap's I " + g, x.gap(g, 0), want[2 * g]);
            due(text + ": gap's J " + g, x.gap(g, 1), want[2 * g + 1]);
        }
    }

    private static void faultOf(String text, int want) {
        RatsEat x = new RatsEat();
        write(x, text);
        due("fault of " + text, x.fault(), want);
        if (want != NONE) {
            due("lay of " + text, x.lay(), NO);
        }
        due("text stays", x.count(6), text.length());
    }

    private static String times(String s, int n) {
        return s.repeat(n);
    }

    private static void newObject() {
        RatsEat x = new RatsEat();
        bins("new", x, 9, 0);
        due("new: owner 0", x.bin(0, 1), 0);
        due("new: owner 1", x.bin(1, 1), 1);
        int[] counts = {2, 1, 0, 0, 0, 9, 0, 0};
        for (int k = 0; k < counts.length; k++) {
            due("new: count " + k, x.count(k), counts[k]);
        }
        due("new: rats take all", x.lost(1, -1), 9);
        due("new: nothing kept", x.back(), NO);
        RatsEat other = new RatsEat();
        other.night();
        due("objects stand alone", x.bin(0, 0), 9);
        due("BAD", RatsEat.BAD, BAD);
        due("NO", RatsEat.NO, NO);
        due("FULL", RatsEat.FULL, FULL);
        due("NONE", RatsEat.NONE, NONE);
    }

    private static void writes() {
        RatsEat x = new RatsEat();
        int[] none = {0, -1, 9, LOW, HIGH};
        for (int n : none) {
            due("write n " + n, x.write(n, 98), BAD);
        }
        due("nothing written", x.count(6), 0);
        // The bytes above the lowest n are no matter; the highest of the n comes first.
        due("write b7", x.write(2, 0x7878787878786237L), 2);
        due("write ,1;", x.write(3, 0xFFFFFFFFFF2C313BL), 5);
        due("lay b7,1;", x.lay(), 1);
        due("bin 0", x.bin(0, 0), 7);
        due("owner", x.bin(0, 1), 1);
        due("write 8 bytes", x.write(8, 0x62382C303B73323BL), 13);
        due("lay b7,1;b8,0;s2;", x.lay(), 2);
        due("bin 1", x.bin(1, 0), 8);
        x.wipe();
        for (int k = 1; k <= 37; k++) {
            due("write to " + 8 * k, x.write(8, 0x73313B73313B7331L), 8 * k);
        }
        due("301 bytes", x.write(5, 0), FULL);
        due("still 296", x.count(6), 296);
        due("300 bytes", x.write(4, 0), 300);
        due("one more", x.write(1, 0), FULL);
        due("BAD ahead of FULL", x.write(9, 0), BAD);
        due("BAD ahead of FULL, below", x.write(0, 0), BAD);
        due("still 300", x.count(6), 300);
    }

    private static void wipes() {
        RatsEat x = new RatsEat();
        due("wipe of nothing", x.wipe(), 0);
        write(x, "b1,0;x");
        due("wipe", x.wipe(), 6);
        due("wiped", x.count(6), 0);
        due("fault of a wiped text", x.fault(), NONE);
        due("wipe again", x.wipe(), 0);
        bins("wipe leaves the barn", x, 9, 0);
        write(x, "s1;");
        due("written anew", x.count(6), 3);
    }

    private static void faults() {
        faultOf("", NONE);
        faultOf("b0,0;b99,1;b007,0;b010,001;", NONE);
        faultOf("b100,0;", 0);
        faultOf("b0,2;", 0);
        faultOf("b1;", 0);
        faultOf("b1,;", 0);
        faultOf("b,1;", 0);
        faultOf("b1,0,0;", 0);
        faultOf("b1,0", 0);
        faultOf("b1", 0);
        faultOf("b", 0);
        faultOf("b0000,0;", 0);
        faultOf("b0,0000;", 0);
        faultOf("b-1,0;", 0);
        faultOf("b 1,0;", 0);
        faultOf("B1,0;", 0);
        faultOf(";", 0);
        faultOf("b1,0;;", 5);
        faultOf("b1,0;b1,0", 5);
        faultOf("b1,0;b1,0;b1,9;b1,0;x", 10);
        faultOf("b1,0;" + (char) 226 + "1,0;", 5);
        faultOf("b1,0;" + (char) 0, 5);
        faultOf(times("b1,0;", 8), NONE);
        faultOf(times("b1,0;", 9), 40);
        faultOf("s0;s1;s2;s002;", NONE);
        faultOf("s3;", 0);
        faultOf("s1,0;", 0);
        faultOf("s;", 0);
        faultOf("r0,0;r3,30;r1,5;r2,030;", NONE);
        faultOf("r4,0;", 0);
        faultOf("r0,31;", 0);
        faultOf("r1;", 0);
        faultOf("b1,0;b1,0;w0,1;w1,0;", NONE);
        faultOf("b1,0;b1,0;w0,2;", 10);
        faultOf("b1,0;b1,0;w2,0;b1,0;", 10);
        faultOf("b1,0;b1,0;w1,1;", 10);
        faultOf("b1,0;b1,0;b1,0;w0,2;", NONE);
        faultOf("b1,0;b1,0;" + times("w0,1;", 8), NONE);
        faultOf("b1,0;b1,0;" + times("w0,1;", 9), 50);
        faultOf("w0,1;b1,0;b1,0;", 0);
        faultOf("c0,1;c0,60;c30,1;c30,5;", NONE);
        faultOf("c31,1;", 0);
        faultOf("c0,0;", 0);
        faultOf("c0,61;", 0);
        faultOf("c5,1;c5,1;c4,1;", 10);
        faultOf(times("c1,1;", 5), 20);
        faultOf("x1;", 0);
        faultOf(times("s1;", 100), NONE);
        faultOf(times("s1;", 99) + "s3;", 297);
    }

    private static void lays() {
        RatsEat x = new RatsEat();
        due("lay of nothing", x.lay(), NO);
        write(x, "s1;r1,0;c0,1;");
        due("lay without a bin", x.lay(), NO);
        due("corn is not told then", x.count(3), 0);
        x.wipe();
        write(x, "b5,1;b6,0;b7,1;s1;w0,2;w1,1;");
        x.pour(0, 1, 4);
        x.keep();
        x.night();
        due("lay with a fault", x.lay(), NO);
        bins("nothing changes then", x, 4, 4);
        due("the night stays", x.count(4), 1);
        due("what is kept stays", x.count(7), 1);
        due("no walls then", x.count(2), 0);
        x.wipe();
        write(x, "b5,1;b6,0;b7,1;s2;s1;r1,3;r2,1;w0,2;w2,0;c3,4;");
        bins("written, not laid", x, 4, 4);
        due("lay", x.lay(), 3);
        bins("laid", x, 5, 6, 7);
        due("night 0", x.count(4), 0);
        due("nothing kept", x.count(7), 0);
        due("nothing to go back to", x.back(), NO);
        due("the text stays", x.count(6), 46);
        due("the last kind counts: a ring", x.count(1), 3);
        due("walls told", x.count(2), 2);
        due("corn told", x.count(3), 1);
        x.pour(0, 1, 5);
        // d 11 from bin 1, d 4 from bin 1: over 1, 10 and 3, no more than 11.
        due("the last rats count", x.lost(1, -1), 11);
        due("lay again", x.lay(), 3);
        bins("laid again", x, 5, 6, 7);
        x.wipe();
        write(x, "b5,1;b3,0;");
        due("lay fewer", x.lay(), 2);
        due("kind 0 without", x.count(1), 1);
        due("all without", x.lost(1, -1), 2);
        due("walls are gone", x.count(2), 0);
        due("corn is gone", x.count(3), 0);
        due("no wall", x.gap(0, 2), 0);
    }

    private static void binsAndGaps() {
        RatsEat x = laid("b5,1;b99,0;b0,1;s1;w2,0;");
        bins("bin", x, 5, 99, 0);
        due("owner 0", x.bin(0, 1), 1);
        due("owner 1", x.bin(1, 1), 0);
        int[] none = {-1, 3, 8, LOW, HIGH};
        for (int k : none) {
            due("bin " + k, x.bin(k, 0), BAD);
            due("gap " + k, x.gap(k, 0), BAD);
            due("bin, what " + k, x.bin(0, k), BAD);
            due("gap, what " + k, x.gap(0, k), BAD);
        }
        due("bin, what 2", x.bin(0, 2), BAD);
        due("a wall the other way round", x.gap(1, 2), 1);
        due("no wall", x.gap(0, 2), 0);
        gaps("b1,0;");
        gaps("b1,0;s1;");
        gaps("b1,0;s2;");
        gaps("b1,0;b1,0;s0;", 0, 1);
        gaps("b1,0;b1,0;s1;", 0, 1);
        gaps("b1,0;b1,0;s2;", 0, 1);
        gaps("b1,0;b1,0;b1,0;s0;", 0, 1, 1, 2);
        gaps("b1,0;b1,0;b1,0;s1;", 0, 1, 0, 2, 1, 2);
        gaps("b1,0;b1,0;b1,0;s2;", 0, 1, 0, 2);
        gaps(times("b1,0;", 5) + "s2;", 0, 1, 0, 3, 1, 2, 1, 4, 3, 4);
        gaps(times("b1,0;", 5) + "s1;", 0, 1, 0, 4, 1, 2, 2, 3, 3, 4);
        gaps(times("b1,0;", 8), 0, 1, 1, 2, 2, 3, 3, 4, 4, 5, 5, 6, 6, 7);
        gaps(times("b1,0;", 8) + "s2;", 0, 1, 0, 4, 1, 2, 1, 5, 2, 3, 2, 6, 3, 7, 4, 5, 5, 6, 6, 7);
        RatsEat apart = laid("b9,0;b0,0;b5,0;w0,2;");
        due("a wall where they do not touch", apart.count(2), 1);
        due("does nothing 0", apart.gap(0, 2), 0);
        due("does nothing 1", apart.gap(1, 2), 0);
        due("does nothing", apart.lost(1, -1), 14);
        due("a wall", laid("b9,0;b0,0;b5,0;w1,0;").lost(1, -1), 5);
    }

    private static void nights() {
        RatsEat x = laid("b5,0;b9,1;b2,0;");
        due("night of all", x.night(), 9);
        bins("behind it, no more than are in it", x, 5, 0, 2);
        due("the night is told", x.count(4), 1);
        due("the next night", x.night(), 7);
        bins("behind that", x, 0, 0, 0);
        due("an empty barn", x.night(), 0);
        due("the night goes on", x.count(4), 3);
        x = laid("b5,0;b9,1;b2,0;r1,0;");
        due("night of half", x.night(), 5);
        bins("behind half", x, 5, 4, 2);
        x = laid("b5,0;b9,1;b2,0;r2,4;");
        due("night of over", x.night(), 3);
        bins("behind over", x, 5, 6, 2);
        x = laid("b5,0;b9,1;b2,0;r3,15;");
        due("night without a moon", x.night(), 3);
        bins("behind that night", x, 5, 6, 2);
        due("night with a moon", x.night(), 5);
        bins("behind that moon", x, 5, 1, 2);
        due("one bin", laid("b9,0;").night(), 0);
        x = laid("b9,0;b1,0;c0,5;");
        due("corn does not come by itself", x.night(), 8);
        due("it does not", x.count(5), 2);
        x = laid("b0,0;b3,0;r3,7;");
        x.pour(1, 0, 1);
        due("a moon at night 0", x.night(), 1);
        x.pour(0, 1, 1);
        for (int t = 1; t <= 6; t++) {
            due("a small difference stays in night " + t, x.night(), 0);
        }
        due("till night 7", x.night(), 2);
    }

    private static void pouring() {
        RatsEat x = laid("b99,0;b99,0;b99,0;");
        due("pour 99", x.pour(0, 1, 99), 198);
        due("pour up to 199", x.pour(2, 1, 1), 199);
        due("pour above 199", x.pour(2, 1, 1), NO);
        due("pour what is not there", x.pour(0, 2, 1), NO);
        bins("poured", x, 0, 199, 98);
        due("pour 99 out of 98", x.pour(2, 0, 99), NO);
        due("pour all", x.pour(2, 0, 98), 98);
        int[] none = {-1, 3, LOW, HIGH};
        for (int k : none) {
            due("pour from " + k, x.pour(k, 0, 1), BAD);
            due("pour into " + k, x.pour(0, k, 1), BAD);
        }
        due("pour 0", x.pour(0, 2, 0), BAD);
        due("pour 100", x.pour(1, 2, 100), BAD);
        due("pour below 0", x.pour(1, 2, LOW), BAD);
        due("pour far too many", x.pour(1, 2, HIGH), BAD);
        due("one twice", x.pour(1, 1, 1), BAD);
        due("BAD ahead of NO", x.pour(2, 2, 99), BAD);
        bins("nothing changes", x, 98, 199, 0);
        due("by day", x.count(4), 0);
    }

    private static void leftAndLost() {
        RatsEat x = laid("b5,0;b9,1;b2,0;");
        due("left of 1 behind none", x.left(1, 0), 9);
        due("left of 1 behind one", x.left(1, 1), 0);
        due("left of 0 behind one", x.left(0, 1), 5);
        due("left of 0 behind two", x.left(0, 2), 0);
        due("left behind 60", x.left(2, 60), 0);
        due("lost in none", x.lost(0, -1), 0);
        due("lost in one", x.lost(1, -1), 9);
        due("lost of 0 in one", x.lost(1, 0), 0);
        due("lost of 1 in one", x.lost(1, 1), 9);
        due("lost of 0 in two", x.lost(2, 0), 7);
        due("lost in 60", x.lost(60, -1), 16);
        bins("all is as it was", x, 5, 9, 2);
        due("and the night", x.count(4), 0);
        int[] none = {-1, 61, LOW, HIGH};
        for (int k : none) {
            due("left, n " + k, x.left(0, k), BAD);
            due("lost, n " + k, x.lost(k, 0), BAD);
        }
        int[] noBin = {-1, 3, LOW, HIGH};
        for (int k : noBin) {
            due("left of " + k, x.left(k, 1), BAD);
        }
        int[] nobody = {-2, 2, LOW, HIGH};
        for (int k : nobody) {
            due("lost of " + k, x.lost(1, k), BAD);
        }
        RatsEat moon = laid("b2,0;b0,0;r3,3;");
        due("no moon in three nights", moon.lost(3, -1), 0);
        due("a moon in four", moon.lost(4, -1), 2);
        moon.night();
        due("from now on", moon.lost(3, -1), 2);
        due("left from now on", moon.left(0, 2), 2);
    }

    private static void orders() {
        RatsEat x = laid("b5,0;b0,1;b5,0;");
        due("order: lost", x.order(1, -1), 5);
        due("order 0", x.order(1, 0), 0);
        due("order 1", x.order(1, 1), 5);
        due("order 2", x.order(1, 2), 5);
        // In two nights 0,5,5 goes to 0,0,5 and then to nothing: all orders lose all, and the first counts.
        due("order: lost in two", x.order(2, -1), 10);
        due("order in two", x.order(2, 2), 5);
        bins("as it was", x, 5, 0, 5);
        x = laid("b5,0;b0,1;b5,0;w1,2;");
        due("a wall: lost", x.order(20, -1), 0);
        due("a wall 0", x.order(20, 0), 5);
        due("a wall 1", x.order(20, 1), 5);
        due("a wall 2", x.order(20, 2), 0);
        x = laid("b1,0;b9,0;b3,0;b7,0;");
        // The amounts rising: 2, 4, 2 out of 3, 7, 9.
        due("rising: lost", x.order(1, -1), 8);
        int[] rising = {1, 3, 7, 9};
        for (int b = 0; b < 4; b++) {
            due("rising " + b, x.order(1, b), rising[b]);
        }
        int[] none = {0, 21, -1, LOW, HIGH};
        for (int k : none) {
            due("order, n " + k, x.order(k, 0), BAD);
        }
        int[] noBin = {-2, 4, LOW, HIGH};
        for (int k : noBin) {
            due("order of " + k, x.order(1, k), BAD);
        }
        x = laid("b0,0;b2,0;b2,0;r3,1;");
        due("no moon tonight: all alike", x.order(1, 0), 0);
        x.night();
        due("a moon tonight", x.order(1, -1), 2);
        due("one bin", laid("b7,0;").order(20, 0), 7);
        due("one bin: lost", laid("b7,0;").order(20, -1), 0);
    }

    private static void exchanges() {
        RatsEat x = laid("b5,0;b0,1;b5,0;");
        due("exchanged I", x.exchanged(0), 0);
        due("exchanged J", x.exchanged(1), 1);
        bins("as it was", x, 5, 0, 5);
        x = laid("b5,0;b5,0;b0,0;b5,0;");
        due("not the first two: I", x.exchanged(0), 0);
        due("not the first two: J", x.exchanged(1), 2);
        x = laid("b0,0;b5,0;b5,0;");
        due("none: I", x.exchanged(0), NONE);
        due("none: J", x.exchanged(1), NONE);
        x = laid("b0,0;b1,0;b5,0;b3,0;");
        // 1 and 4 and 2 out of 1, 5, 5; with 2 and 3 changed 1, 2, 2.
        due("the last two: I", x.exchanged(0), 2);
        due("the last two: J", x.exchanged(1), 3);
        int[] none = {-1, 2, LOW, HIGH};
        for (int k : none) {
            due("exchanged " + k, x.exchanged(k), BAD);
        }
        due("BAD ahead of NONE", laid("b1,0;").exchanged(2), BAD);
        due("one bin", laid("b1,0;").exchanged(0), NONE);
        x = laid("b2,0;b0,0;b2,0;r3,1;");
        due("nothing lost without a moon", x.exchanged(0), NONE);
        x.night();
        due("the night that is next", x.exchanged(0), 0);
    }

    private static void dayPours() {
        RatsEat x = new RatsEat();
        due("pours: lost", x.pours(1, 5, 0), 1);
        due("pours: from", x.pours(1, 5, 1), 0);
        due("pours: to", x.pours(1, 5, 2), 1);
        due("pours: how many, the fewer of alike", x.pours(1, 5, 3), 4);
        due("pours, q 3: lost", x.pours(1, 3, 0), 3);
        due("pours, q 3: how many", x.pours(1, 3, 3), 3);
        due("pours in two: lost", x.pours(2, 1, 0), 7);
        due("pours in two: how many", x.pours(2, 1, 3), 1);
        bins("as it was", x, 9, 0);
        x.pour(0, 1, 4);
        x.night();
        due("pours of nothing: lost", x.pours(2, 5, 0), 0);
        for (int w = 1; w <= 3; w++) {
            due("pours of nothing " + w, x.pours(2, 5, w), NONE);
        }
        int[] none = {0, 3, -1, LOW, HIGH};
        for (int k : none) {
            due("pours, n " + k, x.pours(k, 1, 0), BAD);
        }
        int[] noQ = {0, 6, -1, LOW, HIGH};
        for (int k : noQ) {
            due("pours, q " + k, x.pours(1, k, 0), BAD);
        }
        int[] noWhat = {-1, 4, LOW, HIGH};
        for (int k : noWhat) {
            due("pours, what " + k, x.pours(1, 1, k), BAD);
        }
        // From bin 2 into bin 1: 8 - 2 p. Bin 0 is behind a wall, so all that goes there is as good.
        x = laid("b0,0;b0,0;b8,0;w0,1;");
        due("beside a wall: lost", x.pours(1, 4, 0), 0);
        due("beside a wall: from", x.pours(1, 4, 1), 2);
        due("beside a wall: to", x.pours(1, 4, 2), 1);
        due("one bin: lost", laid("b9,0;").pours(2, 5, 0), 0);
        due("one bin: from", laid("b9,0;").pours(2, 5, 1), NONE);
        // 197 beside 99: one way it is 2 pecks till 199, and the other way better.
        x = laid("b99,0;b98,0;b99,0;w0,1;");
        x.pour(0, 1, 99);
        due("nearly 199: lost", x.pours(1, 5, 0), 88);
        due("nearly 199: from", x.pours(1, 5, 1), 1);
        due("nearly 199: to", x.pours(1, 5, 2), 2);
        // All 281 can be, and the last one is best: bin 7 loses 84 instead of 94, bin 6 then 5.
        x = laid(times("b5,0;", 7) + "b99,0;");
        due("the last of all: lost", x.pours(1, 5, 0), 89);
        due("the last of all: from", x.pours(1, 5, 1), 7);
        due("the last of all: to", x.pours(1, 5, 2), 6);
        due("the last of all: how many", x.pours(1, 5, 3), 5);
        // Bins 0 and 2 touch, 11 and 7; bin 1 behind walls would take 4, if there is room for them.
        roomBehindWalls(19, 12, 2, 2);
        roomBehindWalls(16, 9, 2, 2);
        roomBehindWalls(15, 8, 1, 4);
    }

    private static void roomBehindWalls(int told, int poured, int to, int many) {
        RatsEat x = laid("b99,0;b99,0;b" + told + ",0;s1;w0,1;w1,2;");
        x.pour(0, 1, 88);
        x.pour(2, 1, poured);
        bins("room for " + (12 - poured), x, 11, 187 + poured, 7);
        due("room for " + (12 - poured) + ": lost", x.pours(1, 4, 0), 0);
        due("room for " + (12 - poured) + ": from", x.pours(1, 4, 1), 0);
        due("room for " + (12 - poured) + ": to", x.pours(1, 4, 2), to);
        due("room for " + (12 - poured) + ": how many", x.pours(1, 4, 3), many);
    }

    private static void cornRows() {
        RatsEat x = laid("b9,0;b0,1;c0,9;c1,5;");
        due("corn: lost", x.corn(1, -1), 0);
        due("corn 0", x.corn(1, 0), 1);
        due("corn of night n has bin 0", x.corn(1, 1), 0);
        due("corn in two: lost", x.corn(2, -1), 5);
        due("corn in two 0", x.corn(2, 0), 1);
        due("corn in two 1, the first of alike", x.corn(2, 1), 0);
        bins("as it was", x, 9, 0);
        x.night();
        bins("behind a night", x, 0, 0);
        due("as it is now, from night 0 on: lost", x.corn(1, -1), 9);
        due("the first of alike", x.corn(1, 0), 0);
        int[] none = {0, 32, -1, LOW, HIGH};
        for (int k : none) {
            due("corn, n " + k, x.corn(k, 0), BAD);
        }
        int[] noCorn = {-2, 2, LOW, HIGH};
        for (int k : noCorn) {
            due("corn of " + k, x.corn(1, k), BAD);
        }
        x = new RatsEat();
        due("without corn", x.corn(31, -1), NONE);
        due("without corn there is no first", x.corn(31, 0), BAD);
        x = laid("b99,0;c0,60;c0,40;c1,1;");
        due("199 in it: lost", x.corn(1, -1), 0);
        due("199 in it: 1", x.corn(1, 1), 0);
        due("200 in it behind a night: lost", x.corn(2, -1), NONE);
        x = laid("b99,0;c0,60;c0,41;");
        due("200 in it: lost", x.corn(1, -1), NONE);
        due("200 in it: 0", x.corn(1, 0), NONE);
        due("BAD ahead of NONE", x.corn(0, 0), BAD);
        x = laid("b99,0;c0,60;c1,41;");
        due("not come yet", x.corn(1, -1), 0);
        due("come", x.corn(2, -1), NONE);
        x = laid("b5,0;b2,0;c30,7;");
        due("night 30 is not in 30: lost", x.corn(30, -1), 3);
        due("night 30 is not in 30", x.corn(30, 0), 0);
        due("night 30 is in 31: lost", x.corn(31, -1), 10);
        due("night 30 is in 31", x.corn(31, 0), 0);
    }

    private static void catGaps() {
        RatsEat x = laid("b9,0;b0,1;b5,0;b1,0;");
        // Out of 9, 5, 5 at the gaps 9, 5, 4: bin 2 loses 5 in all.
        due("one cat: lost", x.cats(1, 1, -1), 5);
        due("one cat", x.cats(1, 1, 0), 0);
        due("two cats: lost", x.cats(2, 1, -1), 4);
        due("two cats 0", x.cats(2, 1, 0), 0);
        due("two cats 1", x.cats(2, 1, 1), 1);
        due("three cats: lost", x.cats(3, 20, -1), 0);
        due("three cats 2", x.cats(3, 20, 2), 2);
        bins("as it was", x, 9, 0, 5, 1);
        due("no cat stays", x.lost(1, -1), 14);
        int[] noCats = {0, 4, -1, LOW, HIGH};
        for (int k : noCats) {
            due("cats, k " + k, x.cats(k, 1, -1), BAD);
        }
        int[] none = {0, 21, -1, LOW, HIGH};
        for (int k : none) {
            due("cats, n " + k, x.cats(1, k, 0), BAD);
        }
        due("the second of one", x.cats(1, 1, 1), BAD);
        due("the fourth of three", x.cats(3, 1, 3), BAD);
        due("below -1", x.cats(3, 1, -2), BAD);
        x = laid("b9,0;b0,1;b5,0;b1,0;w0,1;");
        due("not at a wall", x.cats(1, 1, 0), 1);
        due("not at a wall: lost", x.cats(1, 1, -1), 4);
        due("two beside a wall 1", x.cats(2, 1, 1), 2);
        due("fewer: lost", x.cats(3, 1, -1), NONE);
        due("fewer", x.cats(3, 1, 0), NONE);
        due("BAD ahead of NONE", x.cats(3, 1, 3), BAD);
        due("one bin", laid("b9,0;").cats(1, 1, -1), NONE);
        x = laid("b3,0;b3,0;b3,0;");
        due("the first of alike: lost", x.cats(1, 1, -1), 0);
        due("the first of alike", x.cats(1, 1, 0), 0);
    }

    private static void ownersMove() {
        RatsEat x = laid("b5,0;b1,0;b8,0;b4,1;");
        // 5,1,8,4 loses 4 and 7+4 cut to 8: 12. 1,5,8,4 loses 4, 3+4: 11; 8,1,5,4: 7, 4+1: 12; 5,8,1,4: 8: 8.
        // Then 5,8,1,4: 1,8,5,4 loses 8 and 1; 8,5,1,4: 3 and 4: 7; and from there 1,5,8,4 and 8,1,5,4 lose more.
        due("moves: how many", x.moves(0), 2);
        due("moves: lost of 0", x.moves(1), 7);
        due("moves: lost of 1", x.moves(2), 3);
        bins("as it was", x, 5, 1, 8, 4);
        x = laid("b2,1;b8,1;b6,0;b1,0;s2;");
        due("moves: 40 are none", x.moves(0), NONE);
        due("40 moves: lost of 0", x.moves(1), 6);
        due("40 moves: lost of 1", x.moves(2), 8);
        x = new RatsEat();
        due("nobody would: how many", x.moves(0), 0);
        due("nobody would: lost of 0", x.moves(1), 9);
        due("nobody would: lost of 1", x.moves(2), 0);
        int[] none = {-1, 3, LOW, HIGH};
        for (int k : none) {
            due("moves " + k, x.moves(k), BAD);
        }
        // Owner 0, first, loses 5 instead of 7 by 7,6,5,1; owner 1 loses 1 there either way.
        x = laid("b5,0;b6,1;b7,0;b1,1;");
        due("owner 0 first: how many", x.moves(0), 1);
        due("owner 0 first: lost of 0", x.moves(1), 5);
        due("owner 0 first: lost of 1", x.moves(2), 1);
        // Owner 0 loses 9 either way; owner 1, behind his turn, loses 3 instead of 9.
        x = laid("b9,1;b0,0;b9,0;b3,1;");
        due("owner 1 alone: how many", x.moves(0), 1);
        due("owner 1 alone: lost of 0", x.moves(1), 9);
        due("owner 1 alone: lost of 1", x.moves(2), 3);
        x = laid("b0,1;b0,0;b9,1;b9,0;s0;");
        // Owner 0 loses 0 of 0 and 9; changed (0,9,9,0) he loses 9. Owner 1 loses 9 of bin 2; changed (9,0,0,9) 9.
        due("no less: how many", x.moves(0), 0);
        due("no less: lost of 1", x.moves(2), 9);
    }

    private static void whatWas() {
        RatsEat x = new RatsEat();
        due("9, 0 comes of none", x.was(20, 0, -1), 0);
        due("none: bin 0", x.was(20, 0, 0), NONE);
        x.pour(0, 1, 4);
        x.night();
        // 4, 4 by all: the one had 4, the other one 4 or more.
        due("4, 4: how many", x.was(12, 0, -1), 17);
        due("4, 4: bin 0 of the first", x.was(12, 6, 0), 4);
        due("4, 4: bin 1 of the first", x.was(12, 0, 1), 4);
        due("no more than 4", x.was(4, 0, -1), 1);
        due("no more than 3", x.was(3, 0, -1), 0);
        due("no more than 3: bin 0", x.was(3, 0, 0), NONE);
        due("no more than 0", x.was(0, 0, -1), 0);
        int[] noM = {-1, 21, LOW, HIGH};
        for (int k : noM) {
            due("was, m " + k, x.was(k, 0, -1), BAD);
        }
        int[] noT = {-1, 7, LOW, HIGH};
        for (int k : noT) {
            due("was, t " + k, x.was(9, k, -1), BAD);
        }
        int[] noBin = {-2, 2, LOW, HIGH};
        for (int k : noBin) {
            due("was, i " + k, x.was(9, 0, k), BAD);
        }
        x = laid("b2,0;b0,0;r3,2;");
        // Without a moon 2 comes of 2 (d 2 by 3, cut, is 0) and of 3 (3 by 3 is 1), with a moon of none.
        due("no moon: how many", x.was(20, 0, -1), 2);
        due("no moon: bin 0 of the first", x.was(20, 0, 0), 2);
        due("a moon: how many", x.was(20, 2, -1), 0);
        due("one bin: how many", laid("b7,0;").was(20, 0, -1), 1);
        due("one bin", laid("b7,0;").was(20, 0, 0), 7);
        due("4 bins apart", laid("b1,0;b2,0;b3,0;b4,0;w0,1;w1,2;w2,3;").was(20, 0, -1), 1);
        due("4 bins apart, bin 3", laid("b1,0;b2,0;b3,0;b4,0;w0,1;w1,2;w2,3;").was(4, 0, 3), 4);
        x = laid(times("b0,0;", 5));
        due("5 bins", x.was(0, 0, -1), NO);
        due("5 bins, bin 4", x.was(0, 0, 4), NO);
        due("5 bins, bin 5", x.was(0, 0, 5), BAD);
        due("BAD ahead of NO", x.was(21, 0, 0), BAD);
    }

    private static void otherRats() {
        RatsEat x = laid("b5,0;b9,1;b2,0;r1,4;");
        due("all", x.others(0, 1), 9);
        due("half", x.others(1, 1), 5);
        due("over, V as told", x.others(2, 1), 3);
        due("moon, V as told", x.others(3, 1), 3);
        due("moon in five", x.others(3, 5), 8);
        due("in none", x.others(0, 0), 0);
        due("in 60", x.others(0, 60), 16);
        due("the rats stay", x.lost(1, -1), 5);
        bins("as it was", x, 5, 9, 2);
        int[] noKind = {-1, 4, LOW, HIGH};
        for (int k : noKind) {
            due("others " + k, x.others(k, 1), BAD);
        }
        int[] none = {-1, 61, LOW, HIGH};
        for (int k : none) {
            due("others, n " + k, x.others(0, k), BAD);
        }
        x = laid("b2,0;b0,0;r0,1;");
        due("no moon tonight", x.others(3, 1), 0);
        x = laid("b2,0;b2,0;r0,1;");
        x.night();
        x.pour(0, 1, 1);
        due("a moon tonight", x.others(3, 1), 2);
    }

    private static void draws() {
        RatsEat x = laid("b5,0;b5,0;");
        // z 0: x is 1 and 6152: 1, and 6152 squared is 37847104, modulo 65521 is 41487: 87.
        due("a draw of 0", x.drawn(0, 1), 86);
        due("a draw of 0 in none", x.drawn(0, 0), 0);
        due("a draw of 0 in 60", x.drawn(0, 60), 86);
        // z 9999: x is 79182082 and 79188233.
        long a = 79182082L * 79182082L % 65521 % 100, b = 79188233L * 79188233L % 65521 % 100;
        due("a draw of 9999", x.drawn(9999, 1), (int) Math.abs(a - b));
        bins("as it was", x, 5, 5);
        int[] noZ = {-1, 10000, LOW, HIGH};
        for (int k : noZ) {
            due("drawn " + k, x.drawn(k, 1), BAD);
            due("ten " + k, x.ten(k, 1), BAD);
        }
        int[] none = {-1, 61, LOW, HIGH};
        for (int k : none) {
            due("drawn, n " + k, x.drawn(0, k), BAD);
            due("ten, n " + k, x.ten(0, k), BAD);
        }
        due("a wall", laid("b5,0;b5,0;w0,1;").drawn(0, 60), 0);
        RatsEat moon = laid("b5,0;b5,0;r3,1;");
        due("86 by 3", moon.drawn(0, 1), 28);
        moon.night();
        due("from the night that is next", moon.drawn(0, 1), 86);
        // z 0 to 9: pairs (1, 87), .. ; more than half is gone if the one has more than three times the other.
        int more = 0;
        for (int k = 0; k < 10; k++) {
            long p = 7919L * ((9995 + k) % 10000) + 1, q = p + 6151;
            long c = p * p % 65521 % 100, d = q * q % 65521 % 100;
            if (2 * Math.abs(c - d) > c + d) {
                more++;
            }
        }
        due("ten, round behind 9999", x.ten(9995, 1), more);
        due("ten in none", x.ten(9995, 0), 0);
        due("ten of one bin", laid("b5,0;").ten(3, 60), 0);
    }

    private static void kept() {
        RatsEat x = laid("b5,0;b9,1;b2,0;");
        due("back to nothing", x.back(), NO);
        due("keep", x.keep(), 1);
        x.night();
        due("keep two", x.keep(), 2);
        due("kept", x.count(7), 2);
        due("keep three", x.keep(), FULL);
        x.pour(0, 1, 2);
        x.night();
        due("back", x.back(), 1);
        bins("as kept last", x, 5, 0, 2);
        due("the night kept last", x.count(4), 1);
        due("kept is one", x.count(7), 1);
        x.pour(0, 1, 1);
        due("keep two anew", x.keep(), 2);
        due("back from that", x.back(), 1);
        bins("as kept anew", x, 4, 1, 2);
        due("back to the first", x.back(), 0);
        bins("as kept first", x, 5, 9, 2);
        due("the first night", x.count(4), 0);
        due("back once more", x.back(), NO);
        bins("nothing changes", x, 5, 9, 2);
        x.keep();
        x.wipe();
        due("wipe leaves what is kept", x.count(7), 1);
        due("a lay that is none leaves it", x.lay(), NO);
        due("it is left", x.count(7), 1);
    }

    private static void counts() {
        RatsEat x = laid("b5,0;b9,1;b2,0;s1;w0,1;w1,0;c0,1;c0,2;c3,3;");
        x.night();
        x.keep();
        int[] counts = {3, 3, 2, 3, 1, 6, 43, 1};
        for (int k = 0; k < counts.length; k++) {
            due("count " + k, x.count(k), counts[k]);
        }
        int[] none = {-1, 8, LOW, HIGH};
        for (int k : none) {
            due("count " + k, x.count(k), BAD);
        }
        write(x, "w0,2;c4,4;");
        due("walls of the barn, not of the text", x.count(2), 2);
        due("corn of the barn, not of the text", x.count(3), 3);
        due("bytes of the text", x.count(6), 53);
    }

    public static void main(String[] args) {
        newObject();
        writes();
        wipes();
        faults();
        lays();
        binsAndGaps();
        nights();
        pouring();
        leftAndLost();
        orders();
        exchanges();
        dayPours();
        cornRows();
        catGaps();
        ownersMove();
        whatWas();
        otherRats();
        draws();
        kept();
        counts();
        end();
    }
}
