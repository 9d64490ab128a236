/** Promises 1, 2 and 3: a new object, feed, end. */
final class TapeTest {
    public static void main(String[] args) {
        newObject();
        feed();
        end();
        Check.finish("TapeTest");
    }

    private static void newObject() {
        BreathTown x = new BreathTown();
        for (int what = 0; what <= 8; what++) {
            Check.due("new: has(" + what + ")", x.has(what), 0);
        }
        Check.due("new: fault(0)", x.fault(0), 0);
        Check.due("new: fault(1)", x.fault(1), BreathTown.NONE);
        Check.due("new: octet(0)", x.octet(0), BreathTown.NONE);
        Check.due("new: walker(0, 0)", x.walker(0, 0), BreathTown.NONE);
        Check.due("new: letter(0, 0, 0)", x.letter(0, 0, 0), BreathTown.NONE);
        Check.due("new: undo()", x.undo(), false);
        for (int what = 0; what <= 5; what++) {
            Check.due("new: status(" + what + ")", x.status(what), what == 3 ? 1 : 0);
        }
        Check.due("new: go(1)", x.go(1), 1);
        Check.due("NONE", BreathTown.NONE, -1);
        Check.due("NOTHING", BreathTown.NOTHING, -1000000000000000L);
    }

    private static void feed() {
        BreathTown x = new BreathTown();
        for (int k = 1; k <= 80; k++) {
            Check.due("feed " + k, x.feed(-1, 0, Integer.MIN_VALUE, Integer.MAX_VALUE, 7), 20 * k);
        }
        Check.due("feed beyond 1600", x.feed(0, 0, 0, 0, 0), BreathTown.NONE);
        Check.due("status(0)", x.status(0), 1);
        Check.due("end(1600)", x.end(1600), true);
        Check.due("end(1581)", x.end(1581), true);
        Check.due("feed onto 1581", x.feed(0, 0, 0, 0, 0), BreathTown.NONE);
        Check.due("end(1580)", x.end(1580), true);
        Check.due("feed onto 1580", x.feed(0, 0, 0, 0, 0), 1600);
        Check.due("status(0)", x.status(0), 2);

        // The highest byte of each number comes first, behind what stands there already.
        BreathTown y = new BreathTown();
        y.feed(0x706c6163, 0x65206162, 0x63646566, 0x3b20200a, 0x20706c61);
        y.end(19);
        y.feed(0x6c616365, 0x20683b20, 0x20202020, 0x20202020, 0x20202020);
        Check.due("town with fault", y.town(), BreathTown.NONE);
        Check.due("its place", y.fault(1), 17);
        y.feed(0x706c6163, 0x65206162, 0x63646566, 0x3b20200a, 0x20706c61);
        y.feed(0x63652068, 0x3b202020, 0x20202020, 0x20202020, 0x20202020);
        Check.due("town of two places", y.town(), 2);
        for (int k = 0; k < 6; k++) {
            Check.due("letter " + k, y.letter(0, 0, k), k + 1);
        }
        Check.due("feed behind town()", y.feed(0, 0, 0, 0, 0), 20);
    }

    private static void end() {
        BreathTown x = new BreathTown();
        Check.due("end(0) of nothing", x.end(0), true);
        Check.due("end(1) of nothing", x.end(1), false);
        Check.due("end(-1)", x.end(-1), false);
        Check.due("end(least)", x.end(Integer.MIN_VALUE), false);
        Check.due("end(most)", x.end(Integer.MAX_VALUE), false);
        Check.due("status(0)", x.status(0), 4);
        x.feed(1, 2, 3, 4, 5);
        Check.due("end(21)", x.end(21), false);
        Check.due("end(20)", x.end(20), true);
        Check.due("end(13)", x.end(13), true);
        Check.due("end(14)", x.end(14), false);
        Check.due("feed onto 13", x.feed(1, 2, 3, 4, 5), 33);
        Check.due("status(0)", x.status(0), 6);
        Check.due("status(1)", x.status(1), 0);
    }
}
