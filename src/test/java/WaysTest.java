/** Promises 15 to 19: way, arrival, stuck, needed, parade. */
final class WaysTest {
    private static final int NONE = BreathTown.NONE;

    public static void main(String[] args) {
        way();
        ties();
        farthest();
        setsOut();
        stuck();
        needed();
        parade();
        wrongInputs();
        Check.finish("WaysTest");
    }

    /** A ring: p takes 1, wide 0 1 2 3; q takes 2, wide 0 .. 5; r takes 4. Breadths 3, from a to c. */
    private static BreathTown ring(int wideOfR, int begin) {
        return Check.townOf("place a;place b;place c;place d;street p from a to b takes 1 round 4 shift 0 wide tide;"
            + "street q from c to b takes 2 round 6 shift 0 wide tide;street r from a to c takes 4 round 1 shift 0 wide "
            + wideOfR + ";walker w broad 3 at a to c;walker v broad 3 at a to d;begin " + begin + ";");
    }

    private static void wayIs(String name, BreathTown x, int walker, int arrival, int... steps) {
        Check.due(name + ": arrival", x.way(walker, NONE), arrival);
        Check.due(name + ": streets", x.way(walker, 20), arrival == NONE ? NONE : steps.length / 2);
        for (int k = 0; k < steps.length / 2; k++) {
            Check.due(name + ": street " + k, x.way(walker, k), steps[2 * k]);
            Check.due(name + ": hour " + k, x.way(walker, 100 + k), steps[2 * k + 1]);
        }
        Check.due(name + ": no street", x.way(walker, steps.length / 2), NONE);
        Check.due(name + ": no hour", x.way(walker, 100 + steps.length / 2), NONE);
        for (int k : new int[] {-2, 12, 19, 21, 99, 112, Integer.MAX_VALUE, Integer.MIN_VALUE}) {
            Check.due(name + ": way " + k, x.way(walker, k), NONE);
        }
    }

    private static void way() {
        BreathTown x = ring(9, 0);
        wayIs("by r", x, 0, 4, 2, 0);
        Check.due("arrival at a", x.arrival(0, 0), 0);
        Check.due("arrival at b", x.arrival(0, 1), 4);
        Check.due("arrival at c", x.arrival(0, 2), 4);
        Check.due("arrival at d", x.arrival(0, 3), NONE);
        wayIs("nowhere", x, 1, NONE);
        wayIs("by p and q", ring(2, 0), 0, 6, 0, 3, 1, 4);
        // from 5 on: p at 7, then q at 9 (tides 3 and 4)
        wayIs("by p and q, with a wait", ring(2, 5), 0, 11, 0, 7, 1, 9);
        x = ring(2, 5);
        Check.due("arrival at a from 5", x.arrival(0, 0), 5);
        Check.due("arrival at b from 5", x.arrival(0, 1), 8);
        x.hold(0, 1);
        wayIs("by p held", x, 0, 11, 0, 8, 1, 9);
    }

    private static void ties() {
        // d is reached at 2 by b and by c and straight on; the least street that comes there then counts, from the end
        BreathTown x = Check.townOf("place a;place b;place c;place d;"
            + "street q from c to d takes 1 round 1 shift 0 wide 9;street r from b to d takes 1 round 1 shift 0 wide 9;"
            + "street s from a to d takes 2 round 1 shift 0 wide 9;street t from a to b takes 1 round 1 shift 0 wide 9;"
            + "street u from a to c takes 1 round 1 shift 0 wide 9;street v from a to c takes 1 round 1 shift 0 wide 9;"
            + "walker w broad 1 at a to d;walker z broad 1 at d to a;");
        wayIs("tie", x, 0, 2, 4, 0, 0, 1);
        wayIs("tie back", x, 1, 2, 2, 0);
        // the street with the least number may leave later, if it comes there in the same hour
        x = Check.townOf("place a;place b;street s from a to b takes 1 round 1 shift 0 wide clock;"
            + "street t from a to b takes 3 round 1 shift 0 wide 9;walker w broad 2 at a to b;");
        wayIs("same hour", x, 0, 3, 0, 2);
        // not the first street passed, but the one by which the place is first reached
        x = Check.townOf("place a;place b;street s from a to b takes 4 round 1 shift 0 wide 9;"
            + "street t from a to b takes 1 round 1 shift 0 wide clock;walker w broad 3 at b to a;");
        wayIs("same hour again", x, 0, 4, 0, 0);
    }

    private static BreathTown late(int begin) {
        return Check.townOf("place a;place b;street s from a to b takes 1 round 1 shift 0 wide max(day-16,0)*9;"
            + "walker w broad 5 at a to b;begin " + begin + ";");
    }

    private static void farthest() {
        wayIs("408 from 8", late(8), 0, NONE);
        wayIs("408 from 9", late(9), 0, 409, 0, 408);
        Check.due("arrival from 8", late(8).arrival(0, 1), NONE);
        Check.due("arrival from 9", late(9).arrival(0, 1), 409);
        Check.due("needed from 8", late(8).needed(0), NONE);
        Check.due("needed from 9", late(9).needed(0), 1);
    }

    private static void setsOut() {
        BreathTown x = ring(9, 10);
        Check.due("send", x.send(0), 14);
        wayIs("back when free", x, 0, 18, 2, 14);
        Check.due("arrival where he is", x.arrival(0, 2), 14);
        x.go(5);
        wayIs("back when free and later", x, 0, 19, 2, 15);
    }

    private static void stuck() {
        int[][] stuck = {{0, 0, 0}, {3, NONE, NONE}, {7, 8, 1}, {11, 12, 1}, {2, 2, 0}};
        for (int[] s : stuck) {
            BreathTown x = ring(9, s[0]);
            Check.due("stuck from " + s[0], x.stuck(0, 0), s[1]);
            Check.due("stuck in from " + s[0], x.stuck(0, 1), s[2]);
            Check.due("stuck, no way", x.stuck(1, 0), NONE);
        }
        // in the middle of a street: q from 9 on has tides 3 4, from 10 on 4 5, from 11 on 5 0
        BreathTown x = Check.townOf("place a;place b;street q from a to b takes 2 round 6 shift 0 wide tide;"
            + "street s from a to b takes 2 round 1 shift 0 wide 9;walker w broad 3 at a to b;begin 11;");
        Check.due("stuck in the second hour", x.stuck(0, 0), 12);
        Check.due("stuck in the least street of like ones", x.stuck(0, 1), 0);
        Check.due("stuck(0, 2)", x.stuck(0, 2), NONE);
        Check.due("stuck(0, -1)", x.stuck(0, -1), NONE);
        x.send(0);
        Check.due("sent by the other street", x.walker(0, 3), 13);
        Check.due("stuck when he is free", x.stuck(0, 0), 13);
    }

    private static void needed() {
        Check.due("needed of none", ring(9, 0).needed(0), 0);
        Check.due("needed of two", ring(2, 0).needed(0), 3);
        Check.due("needed without way", ring(2, 0).needed(1), NONE);
    }

    private static void parade() {
        BreathTown x = ring(9, 4);
        Check.due("parade(0, 48)", x.parade(0, 48), 4);
        x = ring(2, 0);
        Check.due("parade(0, 0)", x.parade(0, 0), 3);
        Check.due("parade(0, 1)", x.parade(0, 1), NONE);
        Check.due("parade(0, -1)", x.parade(0, -1), NONE);
        Check.due("parade(0, 49)", x.parade(0, 49), NONE);
        Check.due("parade(1, 0)", x.parade(1, 0), NONE);
        // p in 7 would have q in 8 (tide 2); in 11, q in 12 (tide 0); in 15, q in 16 (tides 4 and 5)
        Check.due("parade(0, 0) from 4", ring(2, 4).parade(0, 0), 15);
        x = late(9);
        Check.due("parade of 48 late", x.parade(0, 48), 408);
        // the last hours: s is wide for 400 hours, and too narrow in one when they are over
        x = Check.townOf("place a;place b;street s from a to b takes 2 round 48 shift 0 wide min(47-tide,1)*9;"
            + "walker w broad 5 at a to b;begin 0;");
        Check.due("parade(0, 45)", x.parade(0, 45), 0);
        Check.due("parade(0, 46)", x.parade(0, 46), NONE);
        x.go(1);
        Check.due("parade(0, 45) from 1", x.parade(0, 45), 48);
        // set out 400 hours behind now at the latest
        x = Check.townOf("place a;place b;street s from a to b takes 1 round 1 shift 0 wide max(day-16,min(1,clock/23))*9;"
            + "walker w broad 5 at a to b;begin 8;");
        Check.due("way with days", x.way(0, NONE), 24);
        Check.due("parade(0, 0) with days", x.parade(0, 0), 23);
        Check.due("parade(0, 9) with days", x.parade(0, 9), 407);
        x = Check.townOf("place a;place b;street s from a to b takes 1 round 1 shift 0 wide max(day-16,min(1,clock/23))*9;"
            + "walker w broad 5 at a to b;begin 6;");
        Check.due("parade(0, 9) from 6", x.parade(0, 9), NONE);
        x.go(1);
        Check.due("parade(0, 9) from 7", x.parade(0, 9), 407);
        // by the first street three hours, so that the second one is entered in hour 4
        x = Check.townOf("place a;place b;place c;street s from a to b takes 3 round 1 shift 0 wide 9;"
            + "street t from b to c takes 1 round 5 shift 0 wide tide/4*9;walker w broad 5 at a to c;");
        Check.due("parade(0, 0) by two", x.parade(0, 0), 1);
        // from now on, not from when he is free
        x.send(0);
        Check.due("way back", x.way(0, NONE), 13);
        Check.due("parade(0, 0) while not free", x.parade(0, 0), 4);
    }

    private static void wrongInputs() {
        BreathTown x = ring(9, 0);
        for (int walker : new int[] {-1, 2, 6, Integer.MAX_VALUE, Integer.MIN_VALUE}) {
            Check.due("way(" + walker + ")", x.way(walker, NONE), NONE);
            Check.due("arrival(" + walker + ")", x.arrival(walker, 0), NONE);
            Check.due("stuck(" + walker + ")", x.stuck(walker, 0), NONE);
            Check.due("needed(" + walker + ")", x.needed(walker), NONE);
            Check.due("parade(" + walker + ")", x.parade(walker, 0), NONE);
        }
        Check.due("arrival(0, 4)", x.arrival(0, 4), NONE);
        Check.due("arrival(0, -1)", x.arrival(0, -1), NONE);
    }
}
