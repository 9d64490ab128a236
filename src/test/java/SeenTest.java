/** Promises 28 to 30: see, shifts, telling. */
final class SeenTest {
    private static final int NONE = BreathTown.NONE;

    public static void main(String[] args) {
        see();
        shifts();
        telling();
        Check.finish("SeenTest");
    }

    /** s is wide 0 3 6 9 by its tides, t is 4 wide in tides 0 to 2 and 5 in tide 3, u goes by the clock. */
    private static BreathTown town() {
        return Check.townOf("place a;place b;street s from a to b takes 1 round 4 shift 1 wide tide*3;"
            + "street t from a to b takes 1 round 4 shift 0 wide 4+tide/3;"
            + "street u from a to b takes 1 round 3 shift 0 wide clock;"
            + "street v from a to b takes 1 round 8 shift 0 wide min(tide,3)*min(clock,1);begin 22;");
    }

    private static int see(BreathTown x, int... bytes) {
        Check.tape(x, bytes);
        return x.see();
    }

    private static int[] rows(int count) {
        int[] bytes = new int[4 * count];
        for (int k = 0; k < count; k++) {
            bytes[4 * k + 3] = 3;
        }
        return bytes;
    }

    private static void see() {
        BreathTown x = town();
        Check.due("see() of 2", see(x, 0, 0, 0, 3, 3, 255, 255, 99), 2);
        Check.due("has(7)", x.has(7), 2);
        Check.due("see() of 0", see(x), NONE);
        Check.due("see() of 3 bytes", see(x, 0, 0, 0), NONE);
        Check.due("see() of 5 bytes", see(x, 0, 0, 0, 3, 0), NONE);
        Check.due("see() of street 4", see(x, 0, 0, 0, 3, 4, 0, 0, 3), NONE);
        Check.due("see() of street 255", see(x, 255, 0, 0, 3), NONE);
        Check.due("see() of width 100", see(x, 0, 0, 0, 100), NONE);
        Check.due("see() of 21", see(x, rows(21)), NONE);
        Check.due("see() of a second width 100", see(x, 0, 0, 0, 3, 0, 0, 0, 100), NONE);
        Check.due("see() of a second street 4", see(x, 0, 0, 0, 3, 4, 0, 0, 3), NONE);
        Check.due("status(1)", x.status(1), 9);
        Check.due("has(7)", x.has(7), 2);
        Check.due("the tape goes", x.feed(0, 0, 0, 0, 0), 20);
        Check.due("see() of 5", x.see(), 5);
        Check.due("the tape goes", x.feed(0, 0, 0, 0, 0), 20);
        x.end(0);
        Check.due("see() of 20", see(x, rows(20)), 20);
        Check.due("has(7)", x.has(7), 20);
        Check.due("see() of 1", see(x, rows(1)), 1);
        Check.due("has(7)", x.has(7), 1);
        Check.due("see() of nothing there", see(new BreathTown(), 0, 0, 0, 0), NONE);
    }

    private static void shiftsAre(String name, BreathTown x, int street, int... shifts) {
        Check.due(name + ": how many", x.shifts(street, NONE), shifts.length);
        for (int k = 0; k < shifts.length; k++) {
            Check.due(name + ": shift " + k, x.shifts(street, k), shifts[k]);
        }
        for (int k : new int[] {shifts.length, -2, 48, Integer.MAX_VALUE, Integer.MIN_VALUE}) {
            Check.due(name + ": shifts " + k, x.shifts(street, k), NONE);
        }
    }

    private static void shifts() {
        BreathTown x = town();
        shiftsAre("not seen", x, 0, 0, 1, 2, 3);
        // in hour 5 s was 6 wide: tide 2, shift 1
        see(x, 0, 0, 5, 6);
        shiftsAre("seen once", x, 0, 1);
        shiftsAre("the other", x, 1, 0, 1, 2, 3);
        // in hour 256 t was 4 wide, in hour 257 too: its tides then were not 3
        see(x, 1, 1, 0, 4, 1, 1, 1, 4);
        shiftsAre("seen twice", x, 1, 0, 1);
        shiftsAre("not seen any more", x, 0, 0, 1, 2, 3);
        see(x, 1, 1, 0, 5, 0, 0, 0, 4);
        shiftsAre("seen among others", x, 1, 3);
        shiftsAre("never so wide", x, 0);
        see(x, 0, 0, 5, 6, 1, 1, 0, 5, 0, 0, 6, 9);
        shiftsAre("seen in three rows", x, 0, 1);
        shiftsAre("seen in the second row", x, 1, 3);
        x.hold(1, 1);
        x.go(1);
        shiftsAre("held", x, 1, 3);
        see(x, 2, 255, 255, 15);
        shiftsAre("by the clock alone", x, 2, 0, 1, 2);
        for (int street : new int[] {4, -1, Integer.MAX_VALUE, Integer.MIN_VALUE}) {
            Check.due("shifts(" + street + ")", x.shifts(street, NONE), NONE);
        }
    }

    private static void telling() {
        BreathTown x = town();
        int[][] telling = {{0, 22, 1}, {1, 22, 3}, {2, 22, 3}};
        for (int[] t : telling) {
            Check.due("telling(" + t[0] + ", 0)", x.telling(t[0], 0), t[1]);
            Check.due("telling(" + t[0] + ", 1)", x.telling(t[0], 1), t[2]);
        }
        // v: 0 1 2 3 3 3 3 3 but 0 at clock 0: five of eight shifts alike
        Check.due("telling(3, 0)", x.telling(3, 0), 22);
        Check.due("telling(3, 1)", x.telling(3, 1), 5);
        // seen 3 wide in hour 25: its tide was 3 to 7; from hour 22 on these shifts have tides 0 to 4
        see(x, 3, 0, 25, 3);
        shiftsAre("v", x, 3, 2, 3, 4, 5, 6);
        Check.due("telling(3, 0) seen", x.telling(3, 0), 22);
        Check.due("telling(3, 1) seen", x.telling(3, 1), 2);
        // in 24 all are alike, so that 28 is the next hour that tells much
        x.go(1);
        Check.due("telling(3, 0) from 23", x.telling(3, 0), 28);
        Check.due("telling(3, 1) from 23", x.telling(3, 1), 2);
        see(x, 3, 0, 25, 98);
        Check.due("telling(3, 0) without", x.telling(3, 0), NONE);
        Check.due("telling(3, 1) without", x.telling(3, 1), NONE);
        Check.due("telling(0, 2)", x.telling(0, 2), NONE);
        Check.due("telling(0, -1)", x.telling(0, -1), NONE);
        for (int street : new int[] {4, -1, Integer.MAX_VALUE, Integer.MIN_VALUE}) {
            Check.due("telling(" + street + ")", x.telling(street, 0), NONE);
        }
    }
}
