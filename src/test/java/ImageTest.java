/** Promises 32 to 35: image, octet, on, status. */
final class ImageTest {
    private static final int NONE = BreathTown.NONE;
    private static final String TOWN = "place a;place b;place c;street s from a to b takes 1 round 5 shift 2 wide 9;"
        + "street t from b to c takes 3 round 48 shift 47 wide 9;walker v broad 5 at c to a;walker w broad 5 at a to b;begin 700;";

    public static void main(String[] args) {
        image();
        hoursInTwoBytes();
        on();
        refused();
        status();
        Check.finish("ImageTest");
    }

    /** The bytes with the one that ends an image behind them. */
    private static int[] ended(int... bytes) {
        int c = 163;
        for (int b : bytes) {
            c = (3 * c + b) % 251;
        }
        int[] all = java.util.Arrays.copyOf(bytes, bytes.length + 1);
        all[bytes.length] = c;
        return all;
    }

    private static void octetsAre(String name, BreathTown x, int... bytes) {
        for (int k = 0; k < bytes.length; k++) {
            Check.due(name + ": octet(" + k + ")", x.octet(k), bytes[k]);
        }
        for (int k : new int[] {bytes.length, -1, Integer.MAX_VALUE, Integer.MIN_VALUE}) {
            Check.due(name + ": octet(" + k + ")", x.octet(k), NONE);
        }
    }

    private static void image() {
        BreathTown x = new BreathTown();
        octetsAre("none", x);
        Check.due("image() of nothing", x.image(), 3);
        octetsAre("of nothing", x, 0, 0, 212);
        Check.town(x, TOWN);
        octetsAre("the latest stays", x, 0, 0, 212);
        Check.due("image()", x.image(), 13);
        // 700 is 2 * 256 + 188
        octetsAre("at first", x, ended(2, 188, 2, 47, 2, 0, 0, 0, 0, 1, 0, 0));
        x.hold(0, 3);
        x.send(0);
        octetsAre("not yet another", x, ended(2, 188, 2, 47, 2, 0, 0, 0, 0, 1, 0, 0));
        x.go(100);
        x.image();
        // v goes by t and s: there at 704
        octetsAre("with acts", x, ended(3, 32, 4, 47, 0, 2, 2, 192, 0, 1, 0, 0));
    }

    private static void hoursInTwoBytes() {
        BreathTown x = Check.townOf("begin 255;");
        int[] hours = {255, 256, 511, 512, 767, 768};
        for (int k = 0; k < hours.length; k++) {
            if (k > 0) {
                x.go(hours[k] - hours[k - 1]);
            }
            x.image();
            octetsAre("hour " + hours[k], x, ended(hours[k] >> 8, hours[k] & 255));
        }
        Check.due("on() of 9984", on(x, ended(39, 0)), true);
        Check.due("has(3)", x.has(3), 9984);
        x.image();
        octetsAre("hour 9984", x, ended(39, 0));
    }

    private static boolean on(BreathTown x, int... bytes) {
        Check.tape(x, bytes);
        return x.on();
    }

    private static void on() {
        BreathTown x = Check.townOf(TOWN);
        x.go(5);
        Check.tape(x, 0, 0, 1, 9);
        x.see();
        Check.due("on()", on(x, ended(39, 15, 4, 0, 0, 2, 39, 15, 1, 0, 1, 0)), true);
        Check.due("has(3)", x.has(3), 9999);
        Check.due("has(8)", x.has(8), 0);
        Check.due("has(7)", x.has(7), 1);
        Check.due("undo()", x.undo(), false);
        Check.due("street(0, 4)", x.street(0, 4), 4);
        Check.due("street(1, 4)", x.street(1, 4), 0);
        Check.due("walker(0, 1)", x.walker(0, 1), 0);
        Check.due("walker(0, 2)", x.walker(0, 2), 2);
        Check.due("walker(0, 3)", x.walker(0, 3), 9999);
        Check.due("walker(1, 1)", x.walker(1, 1), 1);
        Check.due("walker(1, 3)", x.walker(1, 3), 256);
        Check.due("width(0, 0)", x.width(0, 0), 9);
        Check.due("the tape goes", x.feed(0, 0, 0, 0, 0), 20);
        Check.due("on()", on(x, ended(0, 0, 0, 47, 2, 0, 0, 7, 0, 1, 0, 0)), false);
        Check.due("on()", on(x, ended(0, 0, 0, 47, 2, 0, 0, 7, 0, 1, 0, 0)), true);
        Check.due("has(3)", x.has(3), 0);
        Check.due("has(6)", x.has(6), 1);
        Check.due("status(5)", x.status(5), 1);
    }

    private static void refused() {
        BreathTown x = Check.townOf(TOWN);
        x.go(5);
        int[] right = {2, 0, 4, 0, 0, 2, 0, 0, 1, 0, 1, 0};
        int[][] wrong = {{0, 39, 1, 16}, {0, 255}, {2, 5}, {3, 48}, {3, 255}, {4, 1}, {4, 2}, {5, 0}, {5, 1}, {6, 39, 7, 16},
            {8, 0}, {8, 2}, {9, 1}, {9, 2}, {10, 255}, {4, 2, 5, 2}, {4, 255}};
        for (int[] w : wrong) {
            int[] bytes = right.clone();
            for (int k = 0; k < w.length; k += 2) {
                bytes[w[k]] = w[k + 1];
            }
            Check.due("on() of " + java.util.Arrays.toString(bytes), on(x, ended(bytes)), false);
        }
        int[] ended = ended(right);
        for (int k = 0; k < ended.length; k++) {
            int[] bytes = ended.clone();
            bytes[k] ^= 4;
            Check.due("on() of a wrong byte " + k, on(x, bytes), false);
        }
        Check.due("on() of one byte less", on(x, java.util.Arrays.copyOf(ended, 12)), false);
        Check.due("on() of one byte more", on(x, ended(ended)), false);
        Check.due("on() of nothing", on(x), false);
        Check.due("on() of another town's", on(x, 0, 0, 212), false);
        Check.due("the tape goes", x.feed(0, 0, 0, 0, 0), 20);
        x.end(0);
        Check.due("has(3)", x.has(3), 705);
        Check.due("has(8)", x.has(8), 1);
        Check.due("status(5)", x.status(5), wrong.length + 17);
        Check.due("on() of the right one", on(x, ended), true);
    }

    private static void status() {
        BreathTown x = Check.townOf(TOWN);
        x.end(-1);
        Check.town(x, "x");
        x.see();
        x.go(0);
        x.send(2);
        x.hold(2, 1);
        x.days(0);
        x.undo();
        x.seed(-1);
        x.on();
        Check.ask(x, "x");
        x.has(-1);
        x.way(9, 9);
        int[] status = {1, 2, 4, 1, 1, 1};
        for (int what = 0; what < status.length; what++) {
            Check.due("status(" + what + ")", x.status(what), status[what]);
        }
        for (int what : new int[] {6, -1, Integer.MAX_VALUE, Integer.MIN_VALUE}) {
            Check.due("status(" + what + ")", x.status(what), NONE);
        }
        Check.town(x, TOWN);
        Check.due("status(2) of a new town", x.status(2), 4);
    }
}
