/** The sentences of the promises 32 to 35 (image, octet, on, status), and of the term IMAGE. */
final class EdgesOfImages {
    private static final int NONE = BreathTown.NONE;
    private static final int MOST = Integer.MAX_VALUE;
    private static final int LEAST = Integer.MIN_VALUE;
    private static final String TOWN = "place a;place b;place c;street s from a to b takes 1 round 5 shift 2 wide 9;"
        + "street t from b to c takes 3 round 48 shift 47 wide 9;walker v broad 5 at c to a;walker w broad 5 at a to b;begin 700;";

    private EdgesOfImages() {
    }

    static void all() {
        anImage();
        lastByte();
        twoBytes();
        howManyBytes();
        latestImage();
        octetOfNone();
        on();
        onHours();
        onShifts();
        onWalkers();
        onOthers();
        onStays();
        status();
        statusOfNone();
    }

    /** The bytes with the one that ends an image behind them. */
    private static int[] ended(int... bytes) {
        int c = 163;
        for (int b : bytes) {
            c = (3 * c + b) % 251;
        }
        int[] all = java.util.Arrays.copyOf(bytes, bytes.length + 1);
        all[bytes.length] = c;
        return all;
    }

    private static void octetsAre(String name, BreathTown x, int... bytes) {
        for (int k = 0; k < bytes.length; k++) {
            Check.due(name + ": octet(" + k + ")", x.octet(k), bytes[k]);
        }
        Check.due(name + ": octet(" + bytes.length + ")", x.octet(bytes.length), NONE);
        Check.due(name + ": octet(-1)", x.octet(-1), NONE);
    }

    private static boolean on(BreathTown x, int... bytes) {
        Check.tape(x, bytes);
        return x.on();
    }

    private static void anImage() {
        Check.stands(32, "AN IMAGE: HOUR (two bytes, the higher first); for each STREET its shift; for each WALKER the PLACE he is at, the one he "
            + "goes to, the HOUR in which he is free (two bytes);");
        BreathTown x = Check.townOf(TOWN);
        Check.due("image()", x.image(), 13);
        // 700 is 2 * 256 + 188
        octetsAre("at first", x, ended(2, 188, 2, 47, 2, 0, 0, 0, 0, 1, 0, 0));
        x.hold(0, 3);
        x.hold(1, 48);
        x.send(0);
        x.go(100);
        x.image();
        // v goes by t and s: there in 704, which is 2 * 256 + 192; 800 is 3 * 256 + 32
        octetsAre("with acts", x, ended(3, 32, 4, 47, 0, 2, 2, 192, 0, 1, 0, 0));
    }

    private static void lastByte() {
        Check.stands(32, "last a byte: all ahead from 163 on, c = (3 c + it) mod 251.");
        BreathTown x = new BreathTown();
        x.image();
        // 163 * 3 is 489, less 251 238; 238 * 3 is 714, less 502 212
        octetsAre("of nothing", x, 0, 0, 212);
        x.go(1);
        x.image();
        octetsAre("of hour 1", x, 0, 1, 213);
        x.go(38);
        x.image();
        octetsAre("of hour 39", x, 0, 39, 0);
        x.undo();
        x.go(37);
        x.image();
        octetsAre("of hour 38", x, 0, 38, 250);
        // 238 as c, then 255: 714 + 255 is 969, less 753 216
        x.go(217);
        x.image();
        octetsAre("of hour 255", x, 0, 255, 216);
        // 489 + 1 is 490, less 251 239; 717, less 502 215
        x.go(1);
        x.image();
        octetsAre("of hour 256", x, 1, 0, 215);
    }

    private static void twoBytes() {
        Check.stands(32, "HOUR (two bytes, the higher first);");
        BreathTown x = new BreathTown();
        for (int[] h : new int[][] {{255, 0, 255}, {256, 1, 0}, {257, 1, 1}, {511, 1, 255}, {512, 2, 0}, {767, 2, 255}, {768, 3, 0}}) {
            x.go(h[0] - x.has(3));
            x.image();
            octetsAre("hour " + h[0], x, ended(h[1], h[2]));
        }
        // 9999 is 39 * 256 + 15
        Check.due("on() of 9999", on(x, ended(39, 15)), true);
        x.image();
        octetsAre("hour 9999", x, ended(39, 15));
        Check.stands(32, "the HOUR in which he is free (two bytes);");
        x = Check.townOf("place a;place b;street s from a to b takes 1 round 1 shift 0 wide 9;walker w broad 9 at a to b;begin 254;");
        x.send(0);
        x.image();
        octetsAre("free in 255", x, ended(0, 254, 0, 1, 0, 0, 255));
        x.send(0);
        x.image();
        octetsAre("free in 256", x, ended(0, 254, 0, 0, 1, 1, 0));
    }

    private static String full() {
        StringBuilder b = new StringBuilder("place a;place b;");
        for (int k = 0; k < 12; k++) {
            b.append("street s").append((char) ('a' + k)).append(" from a to b takes 1 round 48 shift ").append(k + 30).append(" wide 9;");
        }
        for (int k = 0; k < 6; k++) {
            b.append("walker w").append((char) ('a' + k)).append(" broad 9 at b to a;");
        }
        return b.toString();
    }

    private static void howManyBytes() {
        Check.stands(32, "AN IMAGE is written: how many bytes.");
        BreathTown x = new BreathTown();
        Check.due("of nothing", x.image(), 3);
        Check.town(x, "place a;place b;");
        Check.due("of PLACES alone", x.image(), 3);
        Check.town(x, "place a;place b;street s from a to b takes 1 round 1 shift 0 wide 9;");
        Check.due("of a STREET", x.image(), 4);
        Check.town(x, "place a;place b;walker w broad 9 at a to b;");
        Check.due("of a WALKER", x.image(), 7);
        Check.town(x, full());
        Check.due("of all there can be", x.image(), 39);
        int[] bytes = new int[38];
        for (int k = 0; k < 12; k++) {
            bytes[2 + k] = k + 30;
        }
        for (int k = 0; k < 6; k++) {
            bytes[14 + 4 * k] = 1;
        }
        octetsAre("of all there can be", x, ended(bytes));
        // and back, all changed
        bytes[0] = 39;
        bytes[1] = 15;
        for (int k = 0; k < 12; k++) {
            bytes[2 + k] = 47 - k;
        }
        for (int k = 0; k < 6; k++) {
            bytes[14 + 4 * k] = k % 2;
            bytes[15 + 4 * k] = 1 - k % 2;
            bytes[16 + 4 * k] = k;
            bytes[17 + 4 * k] = 255 - k;
        }
        Check.due("on() of all there can be", on(x, ended(bytes)), true);
        for (int k = 0; k < 12; k++) {
            Check.due("street(" + k + ", 4)", x.street(k, 4), 47 - k);
        }
        for (int k = 0; k < 6; k++) {
            Check.due("walker(" + k + ", 1)", x.walker(k, 1), k % 2);
            Check.due("walker(" + k + ", 2)", x.walker(k, 2), 1 - k % 2);
            Check.due("walker(" + k + ", 3)", x.walker(k, 3), 256 * k + 255 - k);
        }
        Check.due("has(3)", x.has(3), 9999);
        x.image();
        octetsAre("all changed", x, ended(bytes));
    }

    private static void latestImage() {
        Check.stands(33, "Byte k of the latest image();");
        BreathTown x = new BreathTown();
        octetsAre("ahead of any", x);
        Check.town(x, TOWN);
        octetsAre("ahead of any, with a town", x);
        x.image();
        int[] first = ended(2, 188, 2, 47, 2, 0, 0, 0, 0, 1, 0, 0);
        x.go(3);
        octetsAre("not by go()", x, first);
        Check.town(x, "x");
        octetsAre("not by a refused town()", x, first);
        Check.town(x, "place a;");
        octetsAre("not by town()", x, first);
        on(x, 0, 0, 212);
        octetsAre("not by on()", x, first);
        x.image();
        octetsAre("by image() alone, and shorter", x, 0, 0, 212);
    }

    private static void octetOfNone() {
        Check.stands(33, "NONE when there is none such.");
        BreathTown x = Check.townOf(TOWN);
        Check.due("octet(0) without an image", x.octet(0), NONE);
        x.image();
        Check.due("octet(12)", x.octet(12) >= 0, true);
        for (int k : new int[] {13, 14, 38, 39, 100, -1, -2, MOST, LEAST}) {
            Check.due("octet(" + k + ")", x.octet(k), NONE);
        }
    }

    private static void on() {
        Check.stands(34, "The tape (it goes) is AN IMAGE of this TOWN: true, all is as it tells, nothing can be undone;");
        BreathTown x = Check.townOf(TOWN);
        x.go(5);
        Check.tape(x, 0, 0, 1, 9);
        x.see();
        x.seed(7);
        // (9999, the shifts 4 and 0, v at a in 9999, w at b in 256)
        Check.due("on()", on(x, ended(39, 15, 4, 0, 0, 2, 39, 15, 1, 0, 1, 0)), true);
        Check.due("the tape goes", x.feed(0, 0, 0, 0, 0), 20);
        x.end(0);
        int[] has = {3, 2, 2, 9999, 416, 15, 2, 1, 0};
        for (int what = 0; what < has.length; what++) {
            Check.due("has(" + what + ")", x.has(what), has[what]);
        }
        Check.due("undo()", x.undo(), false);
        Check.due("street(0, 4)", x.street(0, 4), 4);
        Check.due("street(1, 4)", x.street(1, 4), 0);
        int[][] walkers = {{5, 0, 2, 9999}, {5, 1, 0, 256}};
        for (int w = 0; w < 2; w++) {
            for (int what = 0; what < 4; what++) {
                Check.due("walker(" + w + ", " + what + ")", x.walker(w, what), walkers[w][what]);
            }
        }
        // another one, of an earlier hour
        Check.due("on()", on(x, ended(0, 0, 0, 47, 2, 0, 0, 7, 0, 1, 0, 0)), true);
        Check.due("has(3)", x.has(3), 0);
        Check.due("has(6)", x.has(6), 1);
        Check.due("way(0, NONE)", x.way(0, NONE), 11);
        Check.due("status(5)", x.status(5), 0);
        // the seed stays: by 7 the DRAWS are 0 1, 1 1, 0 0
        x.days(3);
        Check.due("street(0, 4) behind three days", x.street(0, 4), 4);
        Check.due("what an image() tells is one", on(x, bytesOf(x)), true);
    }

    private static int[] bytesOf(BreathTown x) {
        int[] bytes = new int[x.image()];
        for (int k = 0; k < bytes.length; k++) {
            bytes[k] = x.octet(k);
        }
        return bytes;
    }

    private static int[] changed(int... pairs) {
        int[] bytes = {2, 0, 4, 0, 0, 2, 0, 0, 1, 0, 1, 0};
        for (int k = 0; k < pairs.length; k += 2) {
            bytes[pairs[k]] = pairs[k + 1];
        }
        return ended(bytes);
    }

    private static void onIs(boolean want, int... pairs) {
        BreathTown x = Check.townOf(TOWN);
        Check.due("on() of " + java.util.Arrays.toString(changed(pairs)), on(x, changed(pairs)), want);
        Check.due("status(5)", x.status(5), want ? 0 : 1);
        Check.due("has(3)", x.has(3), want ? changed(pairs)[0] * 256 + changed(pairs)[1] : 700);
    }

    private static void onHours() {
        Check.stands(34, "false, refused (5), when it is none (HOURS 9999 at most;");
        onIs(true);
        onIs(true, 0, 39, 1, 14);
        onIs(true, 0, 39, 1, 15);
        onIs(false, 0, 39, 1, 16);
        onIs(false, 0, 40, 1, 0);
        onIs(false, 0, 255, 1, 255);
        onIs(true, 0, 0, 1, 0);
        for (int at : new int[] {6, 10}) {
            onIs(true, at, 39, at + 1, 14);
            onIs(true, at, 39, at + 1, 15);
            onIs(false, at, 39, at + 1, 16);
            onIs(false, at, 40, at + 1, 0);
            onIs(false, at, 255, at + 1, 255);
            onIs(true, at, 0, at + 1, 255);
        }
    }

    private static void onShifts() {
        Check.stands(34, "shifts below their rounds;");
        onIs(true, 2, 0);
        onIs(true, 2, 4);
        onIs(false, 2, 5);
        onIs(false, 2, 6);
        onIs(false, 2, 255);
        onIs(true, 3, 47);
        onIs(false, 3, 48);
        onIs(false, 3, 128);
        onIs(false, 3, 255);
        // a round of 1 has 0 alone
        BreathTown x = Check.townOf("place a;place b;street s from a to b takes 1 round 1 shift 0 wide 9;");
        Check.due("on() of 0", on(x, ended(0, 0, 0)), true);
        Check.due("on() of 1", on(x, ended(0, 0, 1)), false);
    }

    private static void onWalkers() {
        Check.stands(34, "each WALKER at one of his two PLACES, and going to the other)");
        // v between c and a, w between a and b
        onIs(true, 4, 2, 5, 0);
        onIs(true, 4, 0, 5, 2);
        onIs(false, 4, 0, 5, 0);
        onIs(false, 4, 2, 5, 2);
        onIs(false, 4, 1, 5, 2);
        onIs(false, 4, 1, 5, 0);
        onIs(false, 4, 0, 5, 1);
        onIs(false, 4, 2, 5, 1);
        onIs(false, 4, 3, 5, 0);
        onIs(false, 4, 255, 5, 0);
        onIs(true, 8, 0, 9, 1);
        onIs(true, 8, 1, 9, 0);
        onIs(false, 8, 0, 9, 0);
        onIs(false, 8, 1, 9, 1);
        onIs(false, 8, 2, 9, 1);
        onIs(false, 8, 0, 9, 2);
        onIs(false, 8, 1, 9, 2);
    }

    private static void onOthers() {
        Check.stands(34, "The tape (it goes) is AN IMAGE of this TOWN:");
        int[] right = changed();
        BreathTown x = Check.townOf(TOWN);
        int refused = 0;
        for (int k = 0; k < right.length; k++) {
            for (int by : new int[] {1, 250}) {
                int[] bytes = right.clone();
                bytes[k] = (bytes[k] + by) & 255;
                Check.due("on() of a wrong byte " + k, on(x, bytes), false);
                refused++;
            }
        }
        for (int length : new int[] {0, 1, 2, 3, 11, 12, 14, 15, 20, 40}) {
            Check.due("on() of " + length + " bytes", on(x, java.util.Arrays.copyOf(right, length)), false);
            refused++;
        }
        // with a right last byte, but one byte less or more ahead of it
        Check.due("on() of one less", on(x, ended(java.util.Arrays.copyOf(right, 11))), false);
        Check.due("on() of one more", on(x, ended(right)), false);
        Check.due("on() of a town's without streets", on(x, 0, 0, 212), false);
        Check.due("status(5)", x.status(5), refused + 3);
        Check.due("on() of the right one", on(x, right), true);
        // the last byte is c, below 251: c and 251 more is another byte
        x = new BreathTown();
        Check.due("on() of 0 39 0", on(x, 0, 39, 0), true);
        Check.due("on() of 0 39 251", on(x, 0, 39, 251), false);
        Check.due("on() of 0 38 250", on(x, 0, 38, 250), true);
        Check.due("on() of an empty tape", on(x), false);
    }

    private static void onStays() {
        Check.stands(34, "all staying.");
        BreathTown x = Check.townOf(TOWN);
        x.go(5);
        x.hold(0, 1);
        x.send(0);
        Check.tape(x, 0, 0, 1, 9);
        x.see();
        x.image();
        // all is another than now, and only the last WALKER's HOUR can't be
        Check.due("on()", on(x, changed(10, 39, 11, 16)), false);
        Check.due("the tape goes", x.feed(0, 0, 0, 0, 0), 20);
        x.end(0);
        Check.due("has(3)", x.has(3), 705);
        Check.due("has(7)", x.has(7), 1);
        Check.due("has(8)", x.has(8), 3);
        Check.due("street(0, 4)", x.street(0, 4), 1);
        Check.due("street(1, 4)", x.street(1, 4), 47);
        int[][] walkers = {{5, 0, 2, 709}, {5, 0, 1, 0}};
        for (int w = 0; w < 2; w++) {
            for (int what = 0; what < 4; what++) {
                Check.due("walker(" + w + ", " + what + ")", x.walker(w, what), walkers[w][what]);
            }
        }
        Check.due("octet(1)", x.octet(1), 193);
        Check.due("undo()", x.undo(), true);
        Check.due("walker(0, 1) undone", x.walker(0, 1), 2);
    }

    private static void status() {
        Check.stands(35, "How many were refused: 0 feed(), end(); 1 town(), see(); 2 go(), send(), hold(), days(); 3 undo(); 4 seed(); 5 on().");
        BreathTown x = Check.townOf(TOWN);
        int[] counts = new int[6];
        statusIs("at first", x, counts);
        x.end(1);
        counts[0]++;
        statusIs("end(1)", x, counts);
        for (int k = 0; k < 81; k++) {
            x.feed(0, 0, 0, 0, 0);
        }
        counts[0]++;
        statusIs("feed beyond 1600", x, counts);
        x.town();
        counts[1]++;
        statusIs("town() of bytes 0", x, counts);
        x.see();
        counts[1]++;
        statusIs("see() of none", x, counts);
        x.go(501);
        counts[2]++;
        statusIs("go(501)", x, counts);
        x.send(2);
        counts[2]++;
        statusIs("send(2)", x, counts);
        x.hold(0, 100);
        counts[2]++;
        statusIs("hold(0, 100)", x, counts);
        x.days(31);
        counts[2]++;
        statusIs("days(31)", x, counts);
        x.undo();
        counts[3]++;
        statusIs("undo()", x, counts);
        x.seed(-1);
        counts[4]++;
        statusIs("seed(-1)", x, counts);
        x.on();
        counts[5]++;
        statusIs("on() of none", x, counts);
        // what is asked in vain is not refused, nor is a question
        Check.ask(x, "x");
        x.has(9);
        x.width(2, 0);
        x.next(0, 100, 0);
        x.way(2, NONE);
        x.rows(3, NONE);
        x.octet(0);
        statusIs("what is asked", x, counts);
        // what is done is not refused
        x.go(1);
        x.send(0);
        x.hold(0, 1);
        x.days(1);
        x.undo();
        x.seed(3);
        Check.tape(x, 0, 0, 1, 9);
        x.see();
        Check.tape(x, changed());
        x.on();
        Check.town(x, TOWN);
        statusIs("what is done, and another town", x, counts);
    }

    private static void statusIs(String name, BreathTown x, int... counts) {
        for (int what = 0; what < counts.length; what++) {
            Check.due(name + ": status(" + what + ")", x.status(what), counts[what]);
        }
    }

    private static void statusOfNone() {
        Check.stands(35, "NONE for others.");
        BreathTown x = new BreathTown();
        Check.due("status(0)", x.status(0), 0);
        Check.due("status(5)", x.status(5), 0);
        for (int what : new int[] {-1, 6, 7, MOST, LEAST}) {
            Check.due("status(" + what + ")", x.status(what), NONE);
        }
    }
}
