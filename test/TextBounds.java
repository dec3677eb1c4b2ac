/** The bounds of the text: what is written, which item is a fault, what is laid (promises 1 to 5). */
public final class TextBounds extends Checks {
    private static final String TWO = "b0,0;b0,0;";
    private static final String THREE = TWO + "b0,0;";
    /** 300 bytes: 8 bins of 5, then kinds up to the last one, by which they stand in a ring. */
    private static final String LONGEST = "b5,0;".repeat(8) + "s00;s00;" + "s0;".repeat(83) + "s1;";

    private static void fault(String text, int want) {
        RatsEat x = written(text);
        due("fault of " + text, x.fault(), want);
        int bins = text.length() - text.replace("b", "").length();
        due("lay of " + text, x.lay(), want != NONE || bins == 0 ? NO : bins);
        due("text of " + text + " stays", x.count(6), text.length());
    }

    /** The lively barn, with two kept and this text. */
    private static RatsEat lively(String text) {
        RatsEat x = lively();
        x.keep();
        x.night();
        x.wipe();
        write(x, text);
        return x;
    }

    // ---- promise 1

    private static void firstBarn() {
        sentence("at first b9,0;b0,1;");
        RatsEat x = new RatsEat();
        bins("new", x, 9, 0);
        due("owner of 0", x.bin(0, 1), 0);
        due("owner of 1", x.bin(1, 1), 1);
        due("gaps", x.count(1), 1);
        due("walls", x.count(2), 0);
        due("corn", x.count(3), 0);
        due("the night", x.count(4), 0);
        due("kept", x.count(7), 0);
        due("all rats", x.lost(1, -1), 9);
        due("V 0, over", x.others(2, 1), 9);
        due("V 0, moon in night 0", x.others(3, 1), 9);
    }

    private static void firstText() {
        sentence("THE TEXT is empty");
        due("bytes", new RatsEat().count(6), 0);
        due("wipe", new RatsEat().wipe(), 0);
        due("fault", new RatsEat().fault(), NONE);
        still("lay", RatsEat::new, NO, x -> x.lay());
        due("the first byte", new RatsEat().write(1, 'b'), 1);
    }

    private static void objectsApart() {
        sentence("A new object is as told, whatever was done with another one");
        RatsEat x = new RatsEat();
        RatsEat y = lively("b1,0;");
        y.lay();
        y.night();
        bins("the one", x, 9, 0);
        due("its text", x.count(6), 0);
        bins("a newer one", new RatsEat(), 9, 0);
        bins("the other one", y, 1);
    }

    // ---- promise 2

    private static void writeNumbers() {
        sentence("The lowest n bytes (1 to 8): how long it is. BAD");
        RatsEat x = new RatsEat();
        int length = 0;
        for (int n = 1; n <= 8; n++) {
            length += n;
            due("write of " + n, x.write(n, 0), length);
        }
        badBeside("write of", () -> lively("b1,0;b2,"), 1, 8, (y, n) -> y.write(n, 0x303B));
        badBeside("write into an empty text, of", RatsEat::new, 1, 8, (y, n) -> y.write(n, -1));
    }

    private static void writeLowest() {
        sentence("The lowest n bytes of v, the highest of these first, come behind THE TEXT");
        String text = "b12,1;b34,0;s1;b56,1;r2,20;w0,2;c3,45;c30,60;";
        long[] above = {0, -1, 0x6262626262626262L, Long.MIN_VALUE};
        for (int n = 1; n <= 8; n++) {
            for (long other : above) {
                RatsEat x = new RatsEat();
                writeBy(x, text, n, other);
                due("by " + n + ": bytes", x.count(6), text.length());
                due("by " + n + ": lay", x.lay(), 3);
                bins("by " + n, x, 12, 34, 56);
                due("by " + n + ": a wall", x.gap(1, 2), 1);
                due("by " + n + ": over 20", x.lost(1, -1), 4);
            }
        }
        RatsEat x = new RatsEat();
        x.write(8, 0xE2312C303B62312CL);
        due("the highest byte of 8 is signed", x.fault(), 0);
    }

    private static void textFull() {
        sentence("A TEXT is bytes (300 at most). FULL");
        due("the longest text here", LONGEST.length(), 300);
        for (int n = 1; n <= 8; n++) {
            int bytes = n;
            String fits = LONGEST.substring(0, 300 - n);
            due("up to 300 by " + n, written(fits).write(n, 0), 300);
            String tooLong = LONGEST.substring(0, 301 - n);
            still("up to 301 by " + n, () -> lively(tooLong), FULL, x -> x.write(bytes, -1));
        }
        for (int n = 1; n <= 8; n++) {
            int bytes = n;
            still("a full text and " + n, () -> lively(LONGEST), FULL, x -> x.write(bytes, 0x3B));
        }
        RatsEat x = written(LONGEST.substring(0, 297));
        due("refused", x.write(4, 0x7337303BL), FULL);
        due("what fits yet", x.write(3, 0x73313BL), 300);
        due("the text that fits", x.lay(), 8);
    }

    private static void longestText() {
        sentence("All 300 bytes are THE TEXT");
        fault(LONGEST, NONE);
        RatsEat x = laid(LONGEST);
        due("its last item counts", x.count(1), 8);
        fault(LONGEST.substring(0, 299) + ",", 297);
        fault(LONGEST.substring(0, 299), 297);
        fault("s1;".repeat(100), NONE);
        fault("s1;".repeat(99) + "s3;", 297);
        fault("b5,0;".repeat(8) + "r0,0;".repeat(52), NONE);
    }

    /** A text without fault of just so many bytes (5 or more). */
    private static String filled(int length) {
        String[] first = {"", "s00;", "s000;"};
        String start = first[length % 3];
        return start + "s0;".repeat((length - start.length()) / 3);
    }

    private static void cutAtTheEnd() {
        sentence("300 at most: an ITEM that is cut by the end of a full TEXT");
        String[] cuts = {"b", "b1", "b12", "b012", "b0012", "b1,", "b1,0", "b1,00", "b1,000", "b1,0000", "s", "s1", "s01",
            "s001", "s0001", "x", "c0,1,"};
        for (String cut : cuts) {
            int start = 300 - cut.length();
            fault(filled(start) + cut, start);
            fault(filled(start), NONE);
        }
    }

    // ---- promise 3

    private static void wipeEmpty() {
        sentence("THE TEXT is empty: how long it was (of an empty one)");
        still("wipe of nothing", RatsEat::new, 0, x -> x.wipe());
        RatsEat x = written("b1,0;");
        due("wipe", x.wipe(), 5);
        due("wipe again", x.wipe(), 0);
        due("fault", x.fault(), NONE);
        due("lay", x.lay(), NO);
    }

    private static void wipeFull() {
        sentence("THE TEXT is empty: how long it was (of a full one)");
        RatsEat x = written(LONGEST);
        due("full", x.write(1, 0), FULL);
        due("wipe", x.wipe(), 300);
        due("bytes", x.count(6), 0);
        write(x, "b3,1;");
        due("written anew", x.count(6), 5);
        due("laid anew", x.lay(), 1);
        bins("laid anew", x, 3);
        x.wipe();
        write(x, LONGEST);
        due("full anew", x.write(1, 0), FULL);
    }

    private static void wipeLeavesNoByte() {
        sentence("THE TEXT is empty (what was in it is no part of a shorter one)");
        String[] texts = {"b1,0;b12,1;", "s1;b123,0;", "b1,0;x"};
        for (String text : texts) {
            for (int length = 0; length <= text.length(); length++) {
                RatsEat x = written("b1,0;;;;;;;;");
                x.wipe();
                write(x, text);
                x.wipe();
                write(x, text.substring(0, length));
                due("fault of the first " + length + " of " + text, x.fault(), written(text.substring(0, length)).fault());
            }
        }
        RatsEat x = written("b1,0;");
        x.wipe();
        write(x, "b1,0");
        due("without its end", x.fault(), 0);
        due("lay without its end", x.lay(), NO);
        write(x, ";");
        due("with its end", x.fault(), NONE);
    }

    private static void wipeLeavesTheBarn() {
        sentence("THE TEXT is empty, and nothing else is changed");
        RatsEat x = lively("b1,0;");
        RatsEat y = lively("");
        x.wipe();
        for (int what = 0; what < 8; what++) {
            due("count " + what, x.count(what), y.count(what));
        }
        due("back", x.back(), 1);
        due("back again", x.back(), 0);
        bins("the barn", x, 50, 7, 20);
    }

    // ---- promise 4: the form of an item

    private static void letters() {
        sentence("each a letter");
        for (int letter = 0; letter < 256; letter++) {
            String s = "" + (char) letter;
            fault(TWO + s + "1;", s.equals("s") ? NONE : 10);
            fault(TWO + s + "1,0;", "brw".contains(s) ? NONE : 10);
            fault(TWO + s + "1,1;", "brc".contains(s) ? NONE : 10);
        }
        fault("1,0;", 0);
        fault("bb1,0;", 0);
        fault("1b,0;", 0);
    }

    private static void nothingBetween() {
        sentence("ITEMS one behind the other");
        fault("b1,0; b1,0;", 5);
        fault(" b1,0;", 0);
        fault("b1,0;\n", 5);
        fault("b1,0;;", 5);
        fault(";", 0);
        fault("b1,0;" + (char) 0, 5);
        fault("b1,0;b1,0;", NONE);
    }

    private static void figures() {
        sentence("numbers (one to three figures)");
        String[] items = {"b#,0;", "b9,#;", "s#;", "r#,0;", "r0,#;", "w#,1;", "w2,#;", "c#,1;"};
        for (String item : items) {
            fault(THREE + item.replace("#", ""), 15);
            fault(THREE + item.replace("#", "0"), NONE);
            fault(THREE + item.replace("#", "00"), NONE);
            fault(THREE + item.replace("#", "000"), NONE);
            fault(THREE + item.replace("#", "0000"), 15);
            fault(THREE + item.replace("#", "-0"), 15);
            fault(THREE + item.replace("#", "+0"), 15);
            fault(THREE + item.replace("#", " 0"), 15);
            fault(THREE + item.replace("#", "0 "), 15);
        }
        fault("c0,;", 0);
        fault("c0,1;", NONE);
        fault("c0,01;", NONE);
        fault("c0,001;", NONE);
        fault("c0,0001;", 0);
        for (int sign = 0; sign < 256; sign++) {
            fault("b" + (char) sign + ",0;", sign >= '0' && sign <= '9' ? NONE : 0);
            fault("b1" + (char) sign + ",0;", sign >= '0' && sign <= '9' ? NONE : 0);
        }
    }

    private static void figuresTell() {
        sentence("figures tell a number, the highest first, zeros ahead or not");
        bins("bins", laid("b0,0;b1,0;b9,0;b10,0;b19,0;b90,0;b98,0;b099,0;"), 0, 1, 9, 10, 19, 90, 98, 99);
        bins("with zeros ahead", laid("b007,0;b07,000;b080,00;"), 7, 7, 80);
        due("an owner of three figures", laid("b1,001;").bin(0, 1), 1);
    }

    private static void parted() {
        sentence("numbers parted by ,");
        for (int sign = 0; sign < 256; sign++) {
            fault("b1" + (char) sign + "0;", sign == ',' ? NONE : 0);
        }
        fault("b1,,0;", 0);
        fault("b,1,0;", 0);
        fault("b1,0,;", 0);
        fault("s,1;", 0);
        fault("s1,;", 0);
    }

    private static void ended() {
        sentence("and ; (behind the last one, too)");
        for (int sign = 0; sign < 256; sign++) {
            fault("b1,0" + (char) sign, sign == ';' ? NONE : 0);
        }
        fault("b1,0;b1,0", 5);
        fault("b1,0b1,0;", 0);
        fault("b1,0;s1", 5);
        fault("b1,0;s", 5);
    }

    private static void howManyNumbers() {
        sentence("each with its numbers: one behind s, two behind b, r, w, c");
        String[] two = {"b1", "r1", "w1", "c1"};
        for (String item : two) {
            fault(TWO + item + ";", 10);
            fault(TWO + item + ",0,0;", 10);
            fault(TWO + item + ",1,1;", 10);
        }
        fault(TWO + "s;", 10);
        fault(TWO + "s1,0;", 10);
        fault("b;", 0);
    }

    // ---- promise 4: the numbers of an item

    private static void numbers(String item, int low, int high) {
        for (int k = low; k <= high; k++) {
            fault(THREE + item.replace("#", "" + k), NONE);
        }
        if (low > 0) {
            fault(THREE + item.replace("#", "" + (low - 1)), 15);
        }
        fault(THREE + item.replace("#", "" + (high + 1)), 15);
        fault(THREE + item.replace("#", "999"), 15);
    }

    private static void binNumbers() {
        sentence("bC,O a BIN with C pecks (0 to 99)");
        numbers("b#,1;", 0, 99);
        sentence("of OWNER O (0, 1)");
        numbers("b99,#;", 0, 1);
        fault("b5,9;", 0);
        RatsEat x = laid("b0,0;b99,1;b0,1;b99,0;");
        bins("told", x, 0, 99, 0, 99);
        int[] owners = {0, 1, 1, 0};
        for (int b = 0; b < 4; b++) {
            due("owner of " + b, x.bin(b, 1), owners[b]);
        }
    }

    private static void binsAtMost() {
        sentence("a BIN; 8 at most, 0, 1, ..");
        for (int n = 1; n <= 8; n++) {
            fault("b1,0;".repeat(n), NONE);
        }
        fault("b1,0;".repeat(9), 40);
        fault("b1,0;".repeat(8) + "s1;c0,1;b0,0;", 48);
        bins("by number", laid("b1,0;b2,0;s1;b3,0;b4,0;r0,0;b5,0;b6,0;b7,0;w0,1;b8,0;"), 1, 2, 3, 4, 5, 6, 7, 8);
    }

    private static void kinds() {
        sentence("sK they stand by KIND K: 0 ROW, 1 RING, 2 TWO ROWS");
        numbers("s#;", 0, 2);
        int[] gapsOfSix = {5, 6, 7};
        for (int k = 0; k <= 2; k++) {
            due("kind " + k, laid("b1,0;".repeat(6) + "s" + k + ";").count(1), gapsOfSix[k]);
        }
    }

    private static void kindWithout() {
        sentence("KIND 0 without");
        due("six bins", laid("b1,0;".repeat(6)).count(1), 5);
        RatsEat x = laid("b1,0;".repeat(6) + "s1;");
        x.wipe();
        write(x, "b1,0;".repeat(6));
        x.lay();
        due("behind a ring", x.count(1), 5);
    }

    private static void lastKind() {
        sentence("sK: of several such the last one counts");
        due("s1;s2;s0;", laid("s1;" + "b1,0;".repeat(6) + "s2;s0;").count(1), 5);
        due("s0;s2;s1;", laid("s0;s2;" + "b1,0;".repeat(6) + "s1;").count(1), 6);
        due("s1;s0;s2;", laid("s1;s0;s2;" + "b1,0;".repeat(6)).count(1), 7);
        fault("s1;s2;s3;", 6);
    }

    private static void rats() {
        sentence("rK,V RATS of KIND K: 0 ALL, 1 HALF, 2 OVER V, 3 MOON V");
        numbers("r#,5;", 0, 3);
        int[] lost = {50, 25, 20, 16};
        for (int k = 0; k <= 3; k++) {
            due("kind " + k, laid("b50,0;b0,0;r" + k + ",30;").lost(1, -1), lost[k]);
        }
        sentence("V 0 to 30");
        for (int k = 0; k <= 3; k++) {
            numbers("r" + k + ",#;", 0, 30);
        }
    }

    private static void ratsWithout() {
        sentence("RATS 0, 0 without");
        due("K 0", laid("b50,0;b0,0;").lost(1, -1), 50);
        due("V 0, over", laid("b50,0;b0,0;").others(2, 1), 50);
        due("V 0, moon", laid("b50,0;b0,0;").others(3, 1), 50);
        RatsEat x = laid("b50,0;b0,0;r2,30;");
        x.wipe();
        write(x, "b50,0;b0,0;");
        x.lay();
        due("K 0 behind others", x.lost(1, -1), 50);
        due("V 0 behind others", x.others(2, 1), 50);
        x = laid("b50,0;b0,0;r1,0;");
        x.wipe();
        write(x, "b50,0;b0,0;");
        x.lay();
        due("K 0 behind half", x.lost(1, -1), 50);
    }

    private static void lastRats() {
        sentence("rK,V: of several such the last one counts");
        due("r1 and r2,30", laid("r1,0;b50,0;b0,0;r2,30;").lost(1, -1), 20);
        due("r2,30 and r1", laid("r2,30;r1,0;b50,0;b0,0;").lost(1, -1), 25);
        due("r2,30 and r2,10", laid("r2,30;b50,0;b0,0;r2,10;").lost(1, -1), 40);
        due("r2,30 and r0,0", laid("b50,0;b0,0;r2,30;r0,0;").others(2, 1), 50);
        fault("r0,0;r1,1;r4,0;", 10);
    }

    private static void wallsToldAhead() {
        sentence("a WALL between BINS I and J (told ahead)");
        numbers("w#,2;", 0, 1);
        numbers("w2,#;", 0, 1);
        fault(TWO + "w0,2;b0,0;", 10);
        fault(TWO + "w2,0;b0,0;", 10);
        fault(TWO + "w0,1;b0,0;w0,2;w2,1;", NONE);
        fault("b0,0;w0,1;b0,0;", 5);
        fault("w0,1;b0,0;b0,0;", 0);
        fault("w0,1;", 0);
        fault("b0,0;".repeat(8) + "w0,7;w7,0;", NONE);
        fault("b0,0;".repeat(8) + "w0,8;", 40);
        fault("b0,0;".repeat(8) + "w8,0;", 40);
        fault("b0,0;".repeat(7) + "w7,0;b0,0;", 35);
    }

    private static void wallsUnlike() {
        sentence("BINS I and J unlike");
        for (int b = 0; b < 3; b++) {
            fault(THREE + "w" + b + "," + b + ";", 15);
        }
        fault("b0,0;w0,0;", 5);
        fault(TWO + "w0,1;w1,0;", NONE);
    }

    private static void wallsAtMost() {
        sentence("a WALL; 8 at most");
        for (int n = 1; n <= 8; n++) {
            fault(TWO + "w0,1;".repeat(n), NONE);
            due("walls told", laid(TWO + "w0,1;".repeat(n)).count(2), n);
        }
        fault(TWO + "w0,1;".repeat(9), 50);
        fault(THREE + "w0,2;".repeat(8) + "s1;w0,1;", 58);
        fault(TWO + "w0,1;".repeat(4) + "b0,0;" + "w0,1;".repeat(5), 55);
    }

    private static void cornNumbers() {
        sentence("cT,N CORN comes ahead of NIGHT T (0 to 30)");
        numbers("c#,1;", 0, 30);
        sentence("N pecks (1 to 60)");
        numbers("c0,#;", 1, 60);
        fault("c30,60;", NONE);
        fault("c31,61;", 0);
        fault("c0,00;", 0);
        fault("c0,000;", 0);
    }

    private static void cornNoEarlier() {
        sentence("CORN no earlier than that ahead");
        fault("c5,1;c5,1;", NONE);
        fault("c5,1;c6,1;", NONE);
        fault("c5,1;c4,1;", 5);
        fault("c30,1;c30,1;c30,1;c30,1;", NONE);
        fault("c30,1;c29,1;", 6);
        fault("c1,1;c0,1;", 5);
        fault("c0,1;c0,1;c1,1;c0,1;", 15);
        fault("c5,1;b1,0;s1;c4,1;", 13);
        fault("c2,1;c9,1;c5,1;", 10);
    }

    private static void cornAtMost() {
        sentence("CORN; 4 at most, 0, 1, ..");
        for (int n = 1; n <= 4; n++) {
            fault("b1,0;" + "c1,1;".repeat(n), NONE);
            due("corn told", laid("b1,0;" + "c1,1;".repeat(n)).count(3), n);
        }
        fault("c1,1;".repeat(5), 20);
        fault("c1,1;".repeat(4) + "b1,0;c2,1;", 25);
        fault("c1,1;".repeat(2) + "s1;" + "c1,1;".repeat(3), 23);
    }

    // ---- promise 4: the place

    private static void faultPlace() {
        sentence("FAULT: the place (from 0 on) of the first byte of the first ITEM that is not so");
        fault("x", 0);
        fault("b100,0;", 0);
        fault("b1,0;b1,2;", 5);
        fault("b1,0;b1,2;x", 5);
        fault("b10,0;b1,0;b01,1;w0,9;", 17);
        fault("b1,2;b1,0;", 0);
        fault("s3;s4;s5;", 0);
        fault("b1,0;".repeat(9) + "x", 40);
        fault("c9,1;c8,1;c7,1;", 5);
    }

    private static void faultNone() {
        sentence("FAULT. NONE");
        fault("", NONE);
        fault("s0;", NONE);
        fault("b0,0;", NONE);
        still("fault of a wrong text", () -> lively("b1,0;b2,2;"), 5, x -> x.fault());
        still("fault of a right text", () -> lively("b1,0;b2,1;"), NONE, x -> x.fault());
    }

    private static void faultOfEachStart() {
        sentence("the first ITEM that is not so, of each text that is cut");
        String text = "b12,1;s2;b0,0;r3,30;w1,0;c0,60;b9,1;c30,1;";
        int start = 0;
        for (int length = 0; length <= text.length(); length++) {
            boolean whole = length == 0 || text.charAt(length - 1) == ';';
            start = whole ? length : start;
            fault(text.substring(0, length), whole ? NONE : start);
        }
    }

    private static void faultFollowsTheText() {
        sentence("FAULT of THE TEXT as it is now");
        RatsEat x = written("b1,0;b2");
        due("cut", x.fault(), 5);
        write(x, ",1;");
        due("whole", x.fault(), NONE);
        write(x, "?");
        due("wrong", x.fault(), 10);
        x.wipe();
        due("wiped", x.fault(), NONE);
    }

    // ---- promise 5

    private static void layNothing() {
        sentence("LAID is a TEXT of a BIN at least (NO else)");
        String[] texts = {"", "s1;", "r1,2;", "c0,1;", "s2;r3,4;c0,1;c1,1;"};
        for (String text : texts) {
            still("lay of " + text, () -> lively(text), NO, x -> x.lay());
        }
        due("one bin", written("b0,0;").lay(), 1);
    }

    private static void layFault() {
        sentence("LAID is a TEXT without FAULT (NO else); nothing changes then");
        String[] texts = {"x", "b1,0;b2,0;b3,2;", "b1,0;b2,0;s1;r1,1;w0,1;c0,1;c0", "b1,0;".repeat(9), "b1,0;b1,0;w1,1;"};
        for (String text : texts) {
            still("lay of " + text, () -> lively(text), NO, x -> x.lay());
            still("lay of " + text + " at first", () -> written(text), NO, x -> x.lay());
        }
    }

    private static void layCounts() {
        sentence("LAID: how many BINS");
        for (int n = 1; n <= 8; n++) {
            RatsEat x = written("b7,1;".repeat(n));
            due("lay", x.lay(), n);
            due("bins", x.count(0), n);
            due("pecks", x.count(5), 7 * n);
        }
    }

    private static void layAnew() {
        sentence("NIGHT 0, nothing KEPT; THE TEXT stays");
        RatsEat x = lively("b3,1;b1,0;");
        due("two nights ahead of it", x.count(4), 2);
        due("two kept ahead of it", x.count(7), 2);
        due("lay", x.lay(), 2);
        due("the night", x.count(4), 0);
        due("kept", x.count(7), 0);
        due("bytes", x.count(6), 10);
        due("walls", x.count(2), 0);
        due("corn", x.count(3), 0);
        due("owner of 0", x.bin(0, 1), 1);
        bins("laid", x, 3, 1);
        x.night();
        due("laid again", x.lay(), 2);
        bins("laid again", x, 3, 1);
        due("the night again", x.count(4), 0);
        still("back", () -> {
            RatsEat y = lively("b3,1;b1,0;");
            y.lay();
            return y;
        }, NO, y -> y.back());
    }

    private static void layFewer() {
        sentence("LAID: how many BINS (fewer than ahead, and more)");
        RatsEat x = laid("b9,1;".repeat(8) + "s2;");
        x.wipe();
        write(x, "b4,0;");
        due("one behind eight", x.lay(), 1);
        due("gaps", x.count(1), 0);
        due("pecks", x.count(5), 4);
        due("bin 1", x.bin(1, 0), BAD);
        x.wipe();
        write(x, "b4,0;".repeat(8));
        due("eight behind one", x.lay(), 8);
        due("pecks of eight", x.count(5), 32);
        due("owner of the last", x.bin(7, 1), 0);
    }

    private static void theText() {
        firstBarn();
        firstText();
        objectsApart();
        writeNumbers();
        writeLowest();
        textFull();
        longestText();
        cutAtTheEnd();
        wipeEmpty();
        wipeFull();
        wipeLeavesNoByte();
        wipeLeavesTheBarn();
    }

    private static void theItems() {
        letters();
        nothingBetween();
        figures();
        figuresTell();
        parted();
        ended();
        howManyNumbers();
        binNumbers();
        binsAtMost();
        kinds();
        kindWithout();
        lastKind();
        rats();
        ratsWithout();
        lastRats();
        wallsToldAhead();
        wallsUnlike();
        wallsAtMost();
        cornNumbers();
        cornNoEarlier();
        cornAtMost();
    }

    public static void main(String[] args) {
        theText();
        theItems();
        faultPlace();
        faultNone();
        faultOfEachStart();
        faultFollowsTheText();
        layNothing();
        layFault();
        layCounts();
        layAnew();
        layFewer();
        end();
    }
}
