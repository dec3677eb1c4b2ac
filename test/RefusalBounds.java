/** Refused calls: BAD, NO, NONE, FULL, of several the first in this order, and nothing changes then. */
public final class RefusalBounds extends Checks {
    private static final String FORTY = "b2,1;b8,1;b6,0;b1,0;s2;";

    /** Something is kept, poured and written behind it, so that a change would be seen. */
    private static RatsEat used(String text) {
        RatsEat x = laid(text);
        x.keep();
        x.night();
        x.keep();
        x.pour(0, 1, 1);
        x.wipe();
        write(x, "b8,1;s1;b9,0;");
        return x;
    }

    private static void bad(String what, String text, Call call) {
        still(what, () -> used(text), BAD, call);
        still(what + ", at once", () -> laid(text), BAD, call);
    }

    private static void badAheadOfNo() {
        sentence("BAD ahead of NO: pour");
        String text = "b5,0;b99,1;b99,0;";
        bad("100 out of 5", text, x -> x.pour(0, 1, 100));
        bad("0 out of 5 above 199", text, x -> x.pour(0, 1, 0));
        bad("one twice, and not so many", text, x -> x.pour(0, 0, 99));
        bad("out of none, and not so many", text, x -> x.pour(3, 0, 99));
        bad("into none, and not so many", text, x -> x.pour(0, 3, 99));
        bad("one twice, and above 199", text, x -> x.pour(1, 1, 99));
        sentence("BAD ahead of NO: was");
        String five = "b1,0;b1,0;b1,0;b1,0;b1,0;";
        bad("m above", five, x -> x.was(21, 0, -1));
        bad("m below", five, x -> x.was(-1, 0, -1));
        bad("t above", five, x -> x.was(20, 7, -1));
        bad("t below", five, x -> x.was(20, -1, 0));
        bad("i above", five, x -> x.was(20, 0, 5));
        bad("i below", five, x -> x.was(20, 0, -2));
    }

    private static void badAheadOfNoneByDay() {
        sentence("BAD ahead of NONE: exchanged");
        bad("what 2", "b3,0;b3,0;", x -> x.exchanged(2));
        bad("what -1", "b3,0;b3,0;", x -> x.exchanged(-1));
        sentence("BAD ahead of NONE: pours");
        bad("n 3", "b3,0;b3,0;w0,1;", x -> x.pours(3, 1, 1));
        bad("n 0", "b3,0;b3,0;w0,1;", x -> x.pours(0, 1, 1));
        bad("q 6", "b3,0;b3,0;w0,1;", x -> x.pours(1, 6, 1));
        bad("q 0", "b3,0;b3,0;w0,1;", x -> x.pours(1, 0, 1));
        bad("what 4", "b3,0;b3,0;w0,1;", x -> x.pours(1, 1, 4));
        sentence("BAD ahead of NONE: corn");
        bad("n 0 without corn", "b3,0;b3,0;", x -> x.corn(0, -1));
        bad("n 32 without corn", "b3,0;b3,0;", x -> x.corn(32, -1));
        bad("i -2 without corn", "b3,0;b3,0;", x -> x.corn(1, -2));
        bad("i 0 without corn", "b3,0;b3,0;", x -> x.corn(1, 0));
        String none = "b99,0;b99,0;c0,60;c0,60;c0,60;c0,60;";
        still("there is none", () -> laid(none), NONE, x -> x.corn(1, -1));
        bad("n 32", none, x -> x.corn(32, 0));
        bad("n 0", none, x -> x.corn(0, 0));
        bad("i 4", none, x -> x.corn(1, 4));
        sentence("BAD ahead of NONE: cats");
        bad("k 4", "b3,0;b3,0;w0,1;", x -> x.cats(4, 1, -1));
        bad("k 0", "b3,0;b3,0;w0,1;", x -> x.cats(0, 1, -1));
        bad("n 21", "b3,0;b3,0;w0,1;", x -> x.cats(1, 21, -1));
        bad("n 0", "b3,0;b3,0;w0,1;", x -> x.cats(1, 0, -1));
        bad("i k", "b3,0;b3,0;w0,1;", x -> x.cats(2, 1, 2));
        bad("i -2", "b3,0;b3,0;w0,1;", x -> x.cats(2, 1, -2));
    }

    private static void badAheadOfNone() {
        sentence("BAD ahead of NONE: moves");
        still("there is none", () -> laid(FORTY), NONE, x -> x.moves(0));
        bad("what 3", FORTY, x -> x.moves(3));
        bad("what -1", FORTY, x -> x.moves(-1));
        sentence("BAD ahead of NONE: was");
        still("there is none", () -> laid("b9,0;b0,0;"), NONE, x -> x.was(20, 0, 0));
        bad("m 21", "b9,0;b0,0;", x -> x.was(21, 0, 0));
        bad("t 7", "b9,0;b0,0;", x -> x.was(20, 7, 0));
        bad("i 2", "b9,0;b0,0;", x -> x.was(20, 0, 2));
    }

    private static void badAheadOfFull() {
        sentence("BAD ahead of FULL: write");
        Made full = () -> written("s1;".repeat(100));
        still("full", full, FULL, x -> x.write(1, 0x3B));
        badBeside("bytes", full, 1, 8, (x, n) -> x.write(n, 0x3B));
    }

    private static void noAheadOfNone() {
        sentence("NO ahead of NONE, though told behind it: was");
        String five = "b99,0;b99,0;b99,0;b99,0;b99,0;";
        still("how many", () -> used(five), NO, x -> x.was(20, 0, -1));
        still("the first", () -> used(five), NO, x -> x.was(20, 0, 0));
        still("the last", () -> used(five), NO, x -> x.was(0, 6, 4));
    }

    private static void badOfSeveral() {
        sentence("BAD: a number is none that is told, whichever of them it is");
        String text = "b5,0;b9,1;b2,0;s1;c0,5;";
        int[] none = {LOW, -3, 61, 10000, HIGH};
        for (int k : none) {
            bad("write", text, x -> x.write(k, k));
            bad("bin", text, x -> x.bin(k, k));
            bad("gap", text, x -> x.gap(k, k));
            bad("left", text, x -> x.left(k, k));
            bad("lost", text, x -> x.lost(k, k));
            bad("order", text, x -> x.order(k, k));
            bad("exchanged", text, x -> x.exchanged(k));
            bad("corn", text, x -> x.corn(k, k));
            bad("moves", text, x -> x.moves(k));
            bad("others", text, x -> x.others(k, k));
            bad("count", text, x -> x.count(k));
            int bad = k == 61 ? -1 : k;
            bad("drawn", text, x -> x.drawn(bad, 0));
            bad("ten", text, x -> x.ten(bad, 0));
            badOfThree(text, k);
        }
    }

    private static void badOfThree(String text, int k) {
        bad("pour from", text, x -> x.pour(k, 0, 1));
        bad("pour into", text, x -> x.pour(0, k, 1));
        bad("pour of", text, x -> x.pour(1, 0, k == 61 ? 100 : k));
        bad("pours for", text, x -> x.pours(k, 1, 0));
        bad("pours by", text, x -> x.pours(1, k, 0));
        bad("pours, what", text, x -> x.pours(1, 1, k));
        bad("cats of", text, x -> x.cats(k, 1, 0));
        bad("cats in", text, x -> x.cats(1, k, 0));
        bad("cats at", text, x -> x.cats(1, 1, k));
        bad("was up to", text, x -> x.was(k, 0, 0));
        bad("was in", text, x -> x.was(0, k, 0));
        bad("was at", text, x -> x.was(0, 0, k));
    }

    private static void noAndFullChangeNothing() {
        sentence("NO, FULL: nothing changes then");
        String text = "b5,0;b9,1;b2,0;s1;c0,5;r1,2;w0,2;";
        still("keep", () -> used(text), FULL, x -> x.keep());
        still("pour", () -> used(text), NO, x -> x.pour(2, 0, 99));
        still("lay", () -> {
            RatsEat x = used(text);
            write(x, "b");
            return x;
        }, NO, x -> x.lay());
        still("back", () -> laid(text), NO, x -> x.back());
        still("write", () -> {
            RatsEat x = used(text);
            write(x, "s1;".repeat(94));
            return x;
        }, FULL, x -> x.write(6, 0));
    }

    private static void asksChangeNothing() {
        sentence("What only asks changes nothing");
        String text = "b2,1;b8,1;b6,0;b1,0;s2;r3,1;w0,1;c0,5;c1,60;";
        Made made = () -> used(text);
        RatsEat x = made.make();
        still("order", made, x.order(20, -1), y -> y.order(20, -1));
        still("exchanged", made, x.exchanged(0), y -> y.exchanged(0));
        still("pours", made, x.pours(2, 5, 3), y -> y.pours(2, 5, 3));
        still("corn", made, x.corn(31, 1), y -> y.corn(31, 1));
        still("cats", made, x.cats(3, 20, 2), y -> y.cats(3, 20, 2));
        still("moves", made, x.moves(0), y -> y.moves(0));
        still("was", made, x.was(9, 6, 3), y -> y.was(9, 6, 3));
        still("drawn", made, x.drawn(9999, 60), y -> y.drawn(9999, 60));
        still("ten", made, x.ten(9999, 60), y -> y.ten(9999, 60));
        still("others", made, x.others(0, 60), y -> y.others(0, 60));
        still("left", made, x.left(3, 60), y -> y.left(3, 60));
        still("lost", made, x.lost(60, 1), y -> y.lost(60, 1));
    }

    /** Every call that only asks, with its least and its greatest numbers. */
    private static final Call[] ASKS = {
        x -> x.left(1, 60), x -> x.lost(60, 0), x -> x.order(20, -1), x -> x.order(1, 0), x -> x.order(2, 1),
        x -> x.exchanged(0), x -> x.exchanged(1), x -> x.pours(2, 5, 0), x -> x.pours(1, 5, 1), x -> x.pours(2, 1, 2),
        x -> x.pours(1, 1, 3), x -> x.pours(1, 1, 0), x -> x.corn(31, -1), x -> x.corn(31, 0), x -> x.corn(31, 1),
        x -> x.corn(1, -1), x -> x.corn(1, 0), x -> x.corn(1, 1), x -> x.cats(1, 20, -1), x -> x.cats(3, 1, 2),
        x -> x.cats(1, 1, 0), x -> x.cats(2, 20, 1), x -> x.moves(0), x -> x.moves(1), x -> x.moves(2),
        x -> x.was(20, 6, -1), x -> x.was(20, 0, 0), x -> x.was(9, 1, 1), x -> x.was(0, 0, -1), x -> x.others(0, 60),
        x -> x.others(3, 1), x -> x.drawn(9999, 60), x -> x.drawn(0, 1), x -> x.ten(9999, 60), x -> x.ten(0, 1),
        x -> x.fault(), x -> x.count(5), x -> x.gap(0, 2), x -> x.bin(1, 1)};
    private static final String[] BARNS = {
        "b2,1;b8,1;b6,0;b1,0;s2;r3,1;c0,5;c1,60;", "b9,0;b0,1;", "b5,0;b5,0;b0,0;w1,2;c0,9;c9,9;", "b4,0;b4,1;s1;",
        "b7,0;b0,0;b9,1;b3,0;b8,1;s1;r1,4;w0,4;c0,60;c0,1;c30,7;", FORTY, "b3,0;"};

    private static void asksStandAlone() {
        sentence("What is asked does not hang on what was asked ahead of it");
        for (String text : BARNS) {
            RatsEat x = laid(text);
            for (int round = 0; round < 3; round++) {
                for (int k = 0; k < ASKS.length; k++) {
                    int at = round == 1 ? ASKS.length - 1 - k : k;
                    due("ask " + at + " of " + text, ASKS[at].on(x), ASKS[at].on(laid(text)));
                }
            }
        }
    }

    private static void asksOfALaterBarn() {
        sentence("LAID: what was there ahead of it does not matter");
        String[] ahead = {"b99,1;".repeat(8) + "s2;r1,30;w0,1;c0,60;c0,60;c0,60;c0,60;", "b1,0;", FORTY + "r3,3;w0,1;w2,3;"};
        for (String text : BARNS) {
            for (String before : ahead) {
                RatsEat x = laid(before);
                x.keep();
                x.night();
                x.order(1, 0);
                x.corn(31, 0);
                x.cats(1, 1, 0);
                x.wipe();
                write(x, text);
                x.lay();
                for (int k = 0; k < ASKS.length; k++) {
                    due("ask " + k + " of " + text + " behind " + before, ASKS[k].on(x), ASKS[k].on(laid(text)));
                }
            }
        }
    }

    public static void main(String[] args) {
        badAheadOfNo();
        badAheadOfNoneByDay();
        badAheadOfNone();
        badAheadOfFull();
        noAheadOfNone();
        badOfSeveral();
        noAndFullChangeNothing();
        asksChangeNothing();
        asksStandAlone();
        asksOfALaterBarn();
        end();
    }
}
