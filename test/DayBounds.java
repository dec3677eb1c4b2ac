/** The bounds of what is done by day: pours, corn, cats and moves (promises 14 to 17). */
public final class DayBounds extends Checks {
    private static final String RISING = "b0,0;b1,0;b2,0;b3,0;b4,0;b5,0;b6,0;b7,0;";

    // ---- promise 14

    private static void pours(String text, int n, int q, int... want) {
        poursOf(text, () -> laid(text), n, q, want);
    }

    private static void poursOf(String text, Made made, int n, int q, int... want) {
        for (int what = 0; what < want.length; what++) {
            int w = what;
            still("pours(" + n + ", " + q + ", " + w + ") of " + text, made, want[w], x -> x.pours(n, q, w));
        }
    }

    private static void poursNumbers() {
        sentence("POUR for n NIGHTS (1, 2). BAD");
        bounds("pours for", Checks::lively, 1, 2, (x, n) -> x.pours(n, 1, 0));
        sentence("1 to q pecks (q 1 to 5). BAD");
        bounds("pours by", Checks::lively, 1, 5, (x, q) -> x.pours(1, q, 0));
        bounds("pours in two by", Checks::lively, 1, 5, (x, q) -> x.pours(2, q, 0));
        sentence("LOST (what = 0), from (1), to (2), how many (3). BAD");
        bounds("pours, what", Checks::lively, 0, 3, (x, what) -> x.pours(1, 1, what));
    }

    private static void poursUpToQ() {
        sentence("1 to q pecks are poured, no more");
        for (int q = 1; q <= 5; q++) {
            pours("b99,0;b0,0;", 1, q, 99 - 2 * q, 0, 1, q);
            pours("b0,0;b99,0;", 1, q, 99 - 2 * q, 1, 0, q);
        }
        pours("b2,0;b0,0;", 1, 5, 0, 0, 1, 1);
        pours("b10,0;b0,0;", 1, 5, 0, 0, 1, 5);
        pours("b12,0;b0,0;", 1, 5, 2, 0, 1, 5);
    }

    private static void poursNothing() {
        sentence("POUR: none (nothing). NONE");
        pours("b4,0;b4,0;", 1, 5, 0, NONE, NONE, NONE);
        pours("b4,0;b4,0;", 2, 5, 0, NONE, NONE, NONE);
        pours("b9,0;", 2, 5, 0, NONE, NONE, NONE);
        pours("b0,0;b0,0;", 2, 5, 0, NONE, NONE, NONE);
        pours("b5,0;b9,0;b1,0;w0,1;w1,2;", 2, 5, 0, NONE, NONE, NONE);
        // One more than nothing: whichever way it goes there is a difference of one.
        pours("b1,0;b0,0;", 1, 5, 1, NONE, NONE, NONE);
    }

    private static void poursThatAreThere() {
        sentence("from one BIN, that has them");
        // 6 and 10 touch; bin 0, apart, makes them alike by 4, if it has so many; else 4 go out of bin 2.
        pours("b4,0;b6,0;b10,0;w0,1;", 1, 5, 0, 0, 1, 4);
        pours("b3,0;b6,0;b10,0;w0,1;", 1, 5, 0, 2, 0, 4);
        pours("b0,0;b6,0;b10,0;w0,1;", 1, 5, 0, 2, 0, 4);
        pours("b1,0;b6,0;b7,0;w0,1;", 1, 1, 0, 0, 1, 1);
        pours("b0,0;b6,0;b7,0;w0,1;", 1, 1, 0, 2, 0, 1);
    }

    /** Bins 0 and 2 touch, with 11 and 7; bin 1, apart, has room for so many. */
    private static RatsEat fullApart(int room) {
        RatsEat x = laid("b99,0;b99,0;b" + (19 - room) + ",0;s1;w0,1;w1,2;");
        x.pour(0, 1, 88);
        x.pour(2, 1, 12 - room);
        return x;
    }

    private static void poursRoom() {
        sentence("into another one (199 at most in it then)");
        for (int room = 0; room <= 5; room++) {
            int left = room;
            bins("room", fullApart(room), 11, 199 - room, 7);
            boolean fits = room >= 4;
            poursOf("room for " + room, () -> fullApart(left), 1, 5, 0, 0, fits ? 1 : 2, fits ? 4 : 2);
        }
    }

    private static void poursFirst() {
        sentence("POUR: of several the first (nothing, then by from, then to, then how many)");
        pours("b5,0;b4,0;r1,0;", 1, 5, 0, NONE, NONE, NONE);
        pours("b4,0;b0,0;b4,0;", 1, 1, 5, 0, 1, 1);
        pours("b0,0;b4,0;b0,0;", 1, 1, 3, 1, 0, 1);
        pours("b9,0;b0,0;", 1, 5, 1, 0, 1, 4);
        pours("b9,0;b9,0;b0,0;b0,0;w1,2;", 1, 5, 0, NONE, NONE, NONE);
    }

    private static void poursLast() {
        sentence("POUR: of all that can be poured (the last one is best)");
        pours("b5,0;".repeat(7) + "b99,0;", 1, 5, 89, 7, 6, 5);
    }

    private static void poursInTwo() {
        sentence("ahead of each of them: by the best row of these least is LOST in the n NIGHTS");
        // Half: 8 and 1 lose 3, then 4 and 2 lose 1; with one pour alone it is 5.
        pours("b9,0;b0,0;r1,0;", 1, 1, 3, 0, 1, 1);
        pours("b9,0;b0,0;r1,0;", 2, 1, 4, 0, 1, 1);
        // 98 and 1 lose 48, 49 and 2 lose 23; a third night would lose 12.
        pours("b99,0;b0,0;r1,0;", 2, 1, 71, 0, 1, 1);
        // Nothing is lost without a moon, so one peck ahead of the second night is enough.
        pours("b2,0;b0,0;r3,1;", 2, 1, 0, NONE, NONE, NONE);
        // Two pecks with the moon of the second night: the first of them must go ahead of the first one.
        pours("b4,0;b0,0;r3,1;", 2, 1, 0, 0, 1, 1);
        pours("b2,0;b0,0;r3,0;", 2, 1, 0, 0, 1, 1);
    }

    /** Bin 1 of two rows is a peck below the three that touch it, and bin 7 is apart. */
    private static RatsEat lacking(int inSeven) {
        return laid("b10,0;b9,0;b10,0;b10,0;b10,0;b10,0;b10,0;b" + inSeven + ",0;s2;w3,7;w6,7;r3,1;");
    }

    /** Bin 1 is a peck above the three that touch it; bin 7, apart, has more than can be told in a text. */
    private static RatsEat tooMuch(int inSeven) {
        int three = 10 + inSeven - 188;
        RatsEat x = laid("b99,0;b11,0;b10,0;b" + three + ",0;b10,0;b10,0;b10,0;b99,0;s2;w3,7;w6,7;r3,1;");
        x.pour(0, 7, 89);
        x.pour(3, 7, inSeven - 188);
        bins("room in seven", x, 10, 11, 10, 10, 10, 10, 10, inSeven);
        return x;
    }

    private static void poursSecondDay() {
        sentence("ahead of each: from a BIN that has them, 199 at most (in the second one, too)");
        // Only a peck out of bin 7 lets all be alike; without it a peck is lacking somewhere.
        poursOf("a peck apart", () -> lacking(1), 2, 1, 0, NONE, NONE, NONE);
        poursOf("none apart", () -> lacking(0), 2, 1, 1, NONE, NONE, NONE);
        // Only bin 7 can take a peck without a difference; with 199 in it the peck is too much somewhere.
        poursOf("198 apart", () -> tooMuch(198), 2, 1, 0, NONE, NONE, NONE);
        poursOf("199 apart", () -> tooMuch(199), 2, 1, 1, NONE, NONE, NONE);
    }

    private static void poursFromNow() {
        sentence("POUR for n NIGHTS (from the one that is next)");
        RatsEat x = laid("b2,0;b0,0;r3,2;");
        due("no moon in one", x.pours(1, 1, 3), NONE);
        x.night();
        x.night();
        due("a moon tonight", x.pours(1, 1, 3), 1);
    }

    // ---- promise 15

    private static void corn(String text, int n, int... want) {
        cornOf(text, () -> laid(text), n, want);
    }

    private static void cornOf(String text, Made made, int n, int... want) {
        for (int i = -1; i < want.length - 1; i++) {
            int at = i;
            still("corn(" + n + ", " + i + ") of " + text, made, want[i + 1], x -> x.corn(n, at));
        }
    }

    private static void cornNights() {
        sentence("CORN in NIGHTS 0 to n less 1 (n 1 to 31). BAD");
        bounds("corn in", Checks::lively, 1, 31, (x, n) -> x.corn(n, -1));
        badBeside("corn of 0 in", Checks::lively, 1, 31, (x, n) -> x.corn(n, 0));
        corn(RING + "c30,1;", 1, 2, 0);
        corn(RING + "c30,1;", 30, 60, 0);
        // Behind 30 nights bins 2 to 6 have 91, the others 92: a peck in bin 2 stands for bin 1's.
        corn(RING + "c30,1;", 31, 62, 2);
    }

    private static void cornPlaces() {
        sentence("LOST (i = -1), the BIN of the i-th. BAD (CORN: such as there are)");
        for (int n = 1; n <= 4; n++) {
            String text = "b1,0;" + "c1,1;".repeat(n);
            bounds("of " + n + ", corn", () -> laid(text), -1, n - 1, (x, i) -> x.corn(1, i));
        }
        badBeside("without corn,", () -> laid("b1,0;"), -1, -1, (x, i) -> x.corn(1, i));
    }

    private static void cornNone() {
        sentence("CORN: none (also without CORN). NONE");
        corn("b9,0;b0,0;", 1, NONE);
        corn("b9,0;b0,0;", 31, NONE);
        still("at first", RatsEat::new, NONE, x -> x.corn(31, -1));
        corn("b99,0;c0,60;c0,41;", 1, NONE, NONE, NONE);
        corn("b99,0;c0,60;c1,41;", 2, NONE, NONE, NONE);
        corn("b99,0;c0,60;c1,40;c30,1;", 31, NONE, NONE, NONE, NONE);
    }

    private static RatsEat twoApart(int poured) {
        RatsEat x = laid("b99,0;b99,0;w0,1;c0,60;");
        x.pour(1, 0, poured);
        return x;
    }

    private static void cornRoom() {
        sentence("put into one BIN (199 at most in it then)");
        cornOf("139 and 60", () -> twoApart(40), 1, 0, 0);
        cornOf("140 and 60", () -> twoApart(41), 1, 0, 1);
        corn("b99,0;c0,60;c0,40;", 1, 0, 0, 0);
        corn("b99,0;c0,60;c1,40;", 2, 0, 0, 0);
        corn("b99,0;b0,0;w0,1;c0,60;c0,41;", 1, 0, 0, 1);
        corn("b99,0;b99,0;w0,1;c0,60;c0,60;", 1, 0, 0, 1);
        corn("b99,0;b99,0;w0,1;c0,60;c0,60;c0,60;", 1, NONE, NONE, NONE, NONE);
        // Night 0 empties bin 0, so that there is room in it ahead of night 1.
        cornOf("198 beside 0", () -> {
            RatsEat x = laid("b99,0;b99,0;c1,60;");
            x.pour(1, 0, 99);
            return x;
        }, 2, 258, 0);
    }

    private static void cornBehind() {
        sentence("those of NIGHT n and behind are not, but have a BIN in the row, too: 0");
        String text = "b0,0;b0,0;b0,0;w1,2;c1,5;c2,6;c2,7;c30,8;";
        corn(text, 1, 0, 0, 0, 0, 0);
        corn(text, 2, 0, 2, 0, 0, 0);
        corn(text, 3, 0, 2, 2, 2, 0);
        corn(text, 30, 0, 2, 2, 2, 0);
        corn(text, 31, 0, 2, 2, 2, 2);
        corn("b9,0;b0,0;c5,1;", 5, 9, 0);
        // What is not put in can't be too much.
        corn("b99,0;c0,60;c1,41;", 1, 0, 0, 0);
    }

    private static void cornAhead() {
        sentence("each is put into one BIN ahead of its NIGHT");
        corn("b5,0;b0,0;c0,5;", 2, 0, 1);
        corn("b5,0;b0,0;c1,5;", 2, 10, 0);
        corn("b5,0;b0,0;c0,5;c1,3;", 2, 3, 1, 0);
    }

    private static void cornFirst() {
        sentence("CORN: of several the first (by the BIN of the first, then the second, ..)");
        corn("b5,0;b5,0;c0,3;c0,3;", 1, 0, 0, 1);
        corn("b5,0;b5,0;b5,0;w0,1;w1,2;c0,3;c0,3;c1,1;c2,1;", 9, 0, 0, 0, 0, 0);
        corn("b0,0;b0,0;b0,0;w1,2;c0,3;c0,3;", 1, 0, 0, 1);
    }

    private static void cornAll() {
        sentence("CORN: of all rows of BINS (the last one is best)");
        corn("b0,0;".repeat(8) + "w6,7;c0,1;c0,1;c0,1;c0,1;", 31, 0, 7, 7, 7, 7);
        corn("b0,0;".repeat(8) + "w6,7;c0,1;c1,1;c2,1;c3,1;", 4, 0, 7, 7, 7, 7);
    }

    private static void cornFromNightZero() {
        sentence("from NIGHT 0 on, THE BARN being as it is now");
        RatsEat x = laid("b2,0;b2,0;c9,1;r3,0;");
        x.night();
        x.pour(0, 1, 1);
        due("no moon tonight", x.lost(1, -1), 0);
        due("a moon in night 0", x.corn(1, -1), 2);
        x = laid("b2,0;b0,0;c0,1;r3,1;");
        x.night();
        due("a moon tonight", x.lost(1, -1), 2);
        due("no moon in night 0", x.corn(1, -1), 0);
    }

    // ---- promise 16

    private static void cats(String text, int k, int n, int... want) {
        for (int i = -1; i < want.length - 1; i++) {
            int at = i;
            still("cats(" + k + ", " + n + ", " + i + ") of " + text, () -> laid(text), want[i + 1], x -> x.cats(k, n, at));
        }
    }

    private static void catsNumbers() {
        sentence("CATS: of all k (1 to 3) GAPS. BAD");
        bounds("cats", () -> laid(RING), 1, 3, (x, k) -> x.cats(k, 1, -1));
        badBeside("cats", Checks::lively, 1, 3, (x, k) -> x.cats(k, 1, 0));
        sentence("n NIGHTS (1 to 20). BAD");
        bounds("cats in", Checks::lively, 1, 20, (x, n) -> x.cats(1, n, -1));
        sentence("LOST (i = -1), the i-th GAP. BAD");
        for (int k = 1; k <= 3; k++) {
            int cats = k;
            bounds("of " + k + ", cat", () -> laid(RING), -1, k - 1, (x, i) -> x.cats(cats, 1, i));
        }
    }

    private static void catsNights() {
        sentence("with a CAT at each of them in n NIGHTS from now on");
        // A moon in nights 5, 12 and 19. By the cat at g the g below fall, and the 6 less g above, one fewer each moon.
        cats(RISING + "r3,5;", 1, 5, 0, 0);
        cats(RISING + "r3,5;", 1, 6, 6, 0);
        cats(RISING + "r3,5;", 1, 19, 10, 1);
        cats(RISING + "r3,5;", 1, 20, 12, 2);
        RatsEat x = laid("b2,0;b0,0;b2,0;r3,1;");
        due("no moon tonight", x.cats(1, 1, -1), 0);
        x.night();
        due("a moon tonight", x.cats(1, 1, -1), 2);
    }

    private static void catsFewer() {
        sentence("CATS: none (there are fewer). NONE");
        cats("b9,0;", 1, 1, NONE, NONE);
        cats("b9,0;b0,0;", 1, 1, 0, 0);
        cats("b9,0;b0,0;", 2, 1, NONE, NONE, NONE);
        cats("b9,0;b0,0;b5,0;", 2, 1, 0, 0, 1);
        cats("b9,0;b0,0;b5,0;", 3, 20, NONE, NONE, NONE, NONE);
        cats("b9,0;b0,0;b5,0;s1;", 3, 20, 0, 0, 1, 2);
    }

    private static void catsNotAtWalls() {
        sentence("CATS at GAPS without WALL");
        cats("b9,0;b0,0;w0,1;", 1, 1, NONE, NONE);
        cats("b9,0;b0,0;b5,0;w0,1;", 1, 1, 0, 1);
        cats("b9,0;b0,0;b5,0;w0,1;", 2, 1, NONE, NONE, NONE);
        cats("b9,0;b0,0;b5,0;s1;w0,2;", 2, 1, 0, 0, 2);
        cats("b9,0;b0,0;b5,0;s1;w0,2;", 3, 1, NONE, NONE, NONE, NONE);
    }

    private static void catsFirst() {
        sentence("CATS: of several the first (by the lowest GAP, then the next, ..)");
        cats("b3,0;".repeat(8) + "s2;", 1, 20, 0, 0);
        cats("b3,0;".repeat(8) + "s2;", 2, 20, 0, 0, 1);
        cats("b3,0;".repeat(8) + "s2;", 3, 20, 0, 0, 1, 2);
        cats("b4,0;b0,0;b4,0;", 1, 1, 4, 0);
        // Gaps 2 and 3 are to be watched; the third is the lowest that is left.
        cats("b3,0;b3,0;b3,0;b9,0;b3,0;", 3, 1, 0, 0, 2, 3);
    }

    private static void catsLast() {
        sentence("CATS: of all k GAPS (the last ones are best)");
        String text = "b5,0;b5,0;b5,0;b5,0;b1,0;b2,0;b3,0;b4,0;s2;w0,4;w1,5;w2,6;w3,7;";
        cats(text, 3, 1, 0, 7, 8, 9);
        cats(text, 2, 1, 1, 7, 8);
        cats("b5,0;b5,0;b5,0;b5,0;b5,0;b5,0;b5,0;b0,0;w6,7;s2;", 1, 1, 0, 6);
    }

    // ---- promise 17

    private static void moves(String text, int... want) {
        for (int what = 0; what < want.length; what++) {
            int w = what;
            still("moves(" + what + ") of " + text, () -> laid(text), want[what], x -> x.moves(w));
        }
    }

    private static void movesWhat() {
        sentence("how many (what = 0), LOST of OWNER 0 (1), of 1 (2) then. BAD");
        bounds("moves", Checks::lively, 0, 2, (x, what) -> x.moves(what));
        badBeside("40 moves", () -> laid("b2,1;b8,1;b6,0;b1,0;s2;"), 0, 2, (x, what) -> x.moves(what));
    }

    private static void movesNone() {
        sentence("till both in a row do not (at once: no move)");
        moves("b9,0;b0,1;", 0, 9, 0);
        moves("b9,0;", 0, 0, 0);
        moves("b0,0;b5,0;b5,0;", 0, 5, 0);
        sentence("of all two BINS of his (one BIN alone is no two)");
        moves("b1,0;b5,1;", 0, 0, 4);
        moves("b9,0;b0,1;b9,1;w1,2;", 0, 9, 0);
    }

    private static void movesTurns() {
        sentence("OWNER 0 first, then by turns");
        // Owner 0 changes 0 and 2: 2, 2, 1, 0 loses 1 of his, and nobody would; owner 1 first would change 1 and 3.
        moves("b1,0;b2,1;b2,0;b0,1;", 1, 1, 1);
        sentence("till both in a row do not (the one does not, the other one does)");
        moves("b2,0;b7,1;b4,1;", 1, 0, 5);
        moves("b6,0;b15,0;b11,1;b27,0;b10,1;b20,1;b6,1;b17,0;s2;r2,8;", 11, 3, 1);
    }

    private static void movesLess() {
        sentence("leave least LOST of his, if that is less than it is");
        moves("b6,0;b1,1;b6,1;", 0, 5, 5);
        // By 0 and 1 he would lose 5 instead of 6, by 1 and 2 4: the least, not the first that is less.
        moves("b2,0;b6,0;b3,0;", 1, 4, 0);
        sentence("MOVES: of several the first (I, then J above)");
        // 7, 0, 5, 7 and 7, 5, 7, 0 both lose 7 of his; by the first one owner 1 loses 7, by the other one 2.
        moves("b7,1;b5,0;b0,0;b7,0;", 1, 7, 7);
        moves("b6,1;b0,1;b1,1;b1,0;", 1, 0, 6);
    }

    private static void movesForty() {
        sentence("or 40 moves are done: none (40). NONE; what is LOST of an OWNER in that NIGHT then");
        // They go round by 2, 3, 4 and 6 moves, so that 39, 41 and others beside 40 would stand elsewhere.
        moves("b0,1;b6,0;b3,0;b5,1;r2,0;", NONE, 6, 2);
        moves("b1,0;b7,0;b2,1;b9,1;b6,0;b3,0;s2;r0,1;", NONE, 11, 6);
        moves("b0,0;b3,1;b9,1;b2,0;b1,1;b8,1;", NONE, 0, 12);
        moves("b18,0;b3,0;b29,1;b1,1;b12,1;s2;r3,7;", NONE, 18, 23);
    }

    private static void movesTonight() {
        sentence("LOST of his in the NIGHT that is next");
        RatsEat x = laid("b2,0;b0,0;b2,0;r3,1;");
        due("no moon: how many", x.moves(0), 0);
        due("no moon: lost", x.moves(1), 0);
        x.night();
        due("a moon: how many", x.moves(0), 1);
        due("a moon: lost", x.moves(1), 2);
        bins("as it was", x, 2, 0, 2);
    }

    private static void thePours() {
        poursNumbers();
        poursUpToQ();
        poursNothing();
        poursThatAreThere();
        poursRoom();
        poursFirst();
        poursLast();
        poursInTwo();
        poursSecondDay();
        poursFromNow();
    }

    private static void theCorn() {
        cornNights();
        cornPlaces();
        cornNone();
        cornRoom();
        cornBehind();
        cornAhead();
        cornFirst();
        cornAll();
        cornFromNightZero();
    }

    private static void catsAndMoves() {
        catsNumbers();
        catsNights();
        catsFewer();
        catsNotAtWalls();
        catsFirst();
        catsLast();
        movesWhat();
        movesNone();
        movesTurns();
        movesLess();
        movesForty();
        movesTonight();
    }

    public static void main(String[] args) {
        thePours();
        theCorn();
        catsAndMoves();
        end();
    }
}
