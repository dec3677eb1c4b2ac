/** What the tests share: answers that are due, barns to ask, and whether a call has left all as it was. */
abstract class Checks {
    static final int BAD = -1, NO = -2, FULL = -3, NONE = -4;
    static final int LOW = Integer.MIN_VALUE, HIGH = Integer.MAX_VALUE;
    /**
     * One of eight is a peck lower: from there on its neighbours fall to it, then theirs, till the last one falls
     * below all; then it goes on from there. Two are lost in every night, and each fourth night it starts anew.
     */
    static final String RING = "b98,0;" + "b99,1;".repeat(7) + "s1;";
    private static final int MOST_SHOWN = 60;
    private static String sentence = "";
    private static int sentences = 0;
    private static int asked = 0;
    private static int wrong = 0;

    interface Made {
        RatsEat make();
    }

    interface Call {
        int on(RatsEat x);
    }

    interface CallWith {
        int on(RatsEat x, int k);
    }

    /** The document's words that the answers from here on are due by. */
    static void sentence(String words) {
        sentence = words + ": ";
        sentences++;
    }

    static void due(String what, int got, int want) {
        hold(what + " answered " + got + ", due is " + want, got == want);
    }

    static void hold(String what, boolean so) {
        asked++;
        if (!so) {
            wrong++;
            if (wrong <= MOST_SHOWN) {
                System.out.println(sentence + what);
            }
        }
    }

    static void end() {
        String told = sentences == 0 ? "" : sentences + " sentences, ";
        System.out.println(told + asked + " answers asked, " + wrong + " are not as due");
        if (wrong != 0) {
            System.exit(1);
        }
    }

    static void write(RatsEat x, String text) {
        writeBy(x, text, 8, 0);
    }

    /** Writes n bytes a call, with other bytes above those that are to be taken. */
    static void writeBy(RatsEat x, String text, int n, long above) {
        for (int at = 0; at < text.length(); at += n) {
            int now = Math.min(n, text.length() - at);
            long v = above;
            for (int k = 0; k < now; k++) {
                v = v << 8 | text.charAt(at + k);
            }
            x.write(now, v);
        }
    }

    static RatsEat written(String text) {
        RatsEat x = new RatsEat();
        write(x, text);
        return x;
    }

    static RatsEat laid(String text) {
        RatsEat x = written(text);
        hold("lay of " + text, x.lay() > 0);
        return x;
    }

    /** A barn in which something is kept, poured, lost and written, so that a change would be seen. */
    static RatsEat lively() {
        RatsEat x = laid("b50,1;b7,0;b20,1;s1;r2,3;w0,1;c0,5;c2,9;");
        x.keep();
        x.pour(0, 1, 30);
        x.night();
        write(x, "b1");
        return x;
    }

    static void bins(String what, RatsEat x, int... want) {
        due(what + ": bins", x.count(0), want.length);
        for (int b = 0; b < want.length; b++) {
            due(what + ": bin " + b, x.bin(b, 0), want[b]);
        }
    }

    /** A call that only asks, or that is refused: its answer is due, and behind it all is as it was. */
    static void still(String what, Made made, int want, Call call) {
        RatsEat asked = made.make();
        due(what, call.on(asked), want);
        String got = allOf(asked);
        String was = allOf(made.make());
        hold(what + " left " + got + ", due is " + was, got.equals(was));
    }

    /** The first number below and above those that are told, and the farthest, are BAD and change nothing. */
    static void badBeside(String what, Made made, int low, int high, CallWith call) {
        int[] none = {low - 1, high + 1, LOW, HIGH};
        for (int k : none) {
            still(what + " " + k, made, BAD, x -> call.on(x, k));
        }
    }

    /** The last number on either side is taken, what is beside them is BAD. */
    static void bounds(String what, Made made, int low, int high, CallWith call) {
        hold(what + " " + low + " is taken", call.on(made.make(), low) != BAD);
        hold(what + " " + high + " is taken", call.on(made.make(), high) != BAD);
        badBeside(what, made, low, high, call);
    }

    /** All that can be seen of an object, what is kept and what is written last: it is used up by this. */
    private static String allOf(RatsEat x) {
        StringBuilder s = new StringBuilder();
        barnOf(x, s);
        s.append(" fault ").append(x.fault());
        for (int k = 0; k < 2; k++) {
            s.append(" back ").append(x.back());
            barnOf(x, s);
        }
        s.append(" lay ").append(x.lay());
        barnOf(x, s);
        return s.toString();
    }

    private static void barnOf(RatsEat x, StringBuilder s) {
        for (int what = 0; what < 8; what++) {
            s.append(' ').append(x.count(what));
        }
        for (int b = 0; b < x.count(0); b++) {
            s.append(" b").append(x.bin(b, 0)).append(',').append(x.bin(b, 1));
        }
        for (int g = 0; g < x.count(1); g++) {
            s.append(" g").append(x.gap(g, 0)).append(',').append(x.gap(g, 1)).append(',').append(x.gap(g, 2));
        }
        s.append(" lost ").append(x.lost(1, 0)).append(',').append(x.lost(60, 1));
        for (int kind = 0; kind < 4; kind++) {
            s.append(" others ").append(x.others(kind, 1));
        }
        s.append(" corn ").append(x.corn(31, -1));
    }
}
