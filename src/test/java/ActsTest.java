/** Promises 22 to 27: go, send, hold, days, undo, seed. */
final class ActsTest {
    private static final int NONE = BreathTown.NONE;

    public static void main(String[] args) {
        go();
        send();
        hold();
        days();
        undo();
        undoTwenty();
        seed();
        Check.finish("ActsTest");
    }

    private static BreathTown town() {
        return Check.townOf("place a;place b;place c;street s from a to b takes 2 round 5 shift 0 wide tide*3;"
            + "street t from b to c takes 1 round 7 shift 5 wide 9;street u from a to c takes 4 round 1 shift 0 wide 9-day/416*9;"
            + "walker v broad 9 at a to b;walker w broad 10 at b to c;walker z broad 9 at a to c;");
    }

    private static void go() {
        BreathTown x = town();
        Check.due("go(500)", x.go(500), 500);
        Check.due("go(1)", x.go(1), 501);
        for (int n : new int[] {0, -1, 501, Integer.MAX_VALUE, Integer.MIN_VALUE}) {
            Check.due("go(" + n + ")", x.go(n), NONE);
        }
        Check.due("status(2)", x.status(2), 5);
        for (int k = 0; k < 18; k++) {
            x.go(500);
        }
        Check.due("has(3)", x.has(3), 9501);
        Check.due("go(499)", x.go(499), NONE);
        Check.due("has(3)", x.has(3), 9501);
        Check.due("go(498)", x.go(498), 9999);
        Check.due("go(1)", x.go(1), NONE);
        Check.due("has(4)", x.has(4), 416);
        Check.due("has(5)", x.has(5), 15);
        Check.due("status(2)", x.status(2), 7);
    }

    private static void send() {
        BreathTown x = town();
        // v: s is 9 wide and more in tides 3 and 4, hours 3 and 4
        Check.due("send(0)", x.send(0), 5);
        Check.due("walker(0, 1)", x.walker(0, 1), 1);
        Check.due("walker(0, 2)", x.walker(0, 2), 0);
        Check.due("walker(0, 3)", x.walker(0, 3), 5);
        Check.due("has(3)", x.has(3), 0);
        Check.due("has(6)", x.has(6), 2);
        // back: not ahead of 5; s again in 8 and 9, or t and u from 5 on
        Check.due("send(0) back", x.send(0), 10);
        Check.due("walker(0, 1)", x.walker(0, 1), 0);
        Check.due("walker(0, 2)", x.walker(0, 2), 1);
        for (int walker : new int[] {1, 3, -1, 6, Integer.MAX_VALUE, Integer.MIN_VALUE}) {
            Check.due("send(" + walker + ")", x.send(walker), NONE);
        }
        Check.due("status(2)", x.status(2), 6);
        Check.due("has(8)", x.has(8), 2);
        // the ARRIVAL may be 9999, not more
        for (int k = 0; k < 19; k++) {
            x.go(500);
        }
        x.go(495);
        Check.town(x, "place a;place b;street s from a to b takes 4 round 1 shift 0 wide 9;walker v broad 9 at a to b;"
            + "walker w broad 9 at a to b;");
        for (int k = 0; k < 19; k++) {
            x.go(500);
        }
        Check.due("go(495)", x.go(495), 9995);
        Check.due("send(0) at 9995", x.send(0), 9999);
        Check.due("send(0) at 9999", x.send(0), NONE);
        Check.due("way beyond", x.way(0, NONE), 10003);
        x.go(1);
        Check.due("send(1) at 9996", x.send(1), NONE);
        Check.due("walker(1, 1)", x.walker(1, 1), 0);
        Check.due("status(2)", x.status(2), 8);
    }

    private static void hold() {
        BreathTown x = town();
        Check.due("hold(0, 1)", x.hold(0, 1), 4);
        Check.due("street(0, 4)", x.street(0, 4), 4);
        Check.due("street(0, 5)", x.street(0, 5), 4);
        Check.due("hold(0, 99)", x.hold(0, 99), 0);
        Check.due("hold(1, 7)", x.hold(1, 7), 5);
        Check.due("hold(1, 6)", x.hold(1, 6), 6);
        Check.due("hold(2, 50)", x.hold(2, 50), 0);
        Check.due("has(3)", x.has(3), 0);
        int[][] wrong = {{0, 0}, {0, 100}, {0, -1}, {3, 1}, {-1, 1}, {0, Integer.MIN_VALUE}, {Integer.MAX_VALUE, 1}};
        for (int[] w : wrong) {
            Check.due("hold(" + w[0] + ", " + w[1] + ")", x.hold(w[0], w[1]), NONE);
        }
        Check.due("status(2)", x.status(2), wrong.length);
        Check.due("has(8)", x.has(8), 5);
    }

    private static void shiftsAre(String name, BreathTown x, int... shifts) {
        for (int k = 0; k < shifts.length; k++) {
            Check.due(name + ": street(" + k + ", 4)", x.street(k, 4), shifts[k]);
        }
    }

    private static void days() {
        BreathTown x = town();
        x.seed(7);
        // draws of 3 by the seed 7: 2 1, 1 1, 1 0, 0 0, 0 0
        Check.due("days(1)", x.days(1), 24);
        shiftsAre("one day", x, 0, 5, 0);
        Check.due("days(2)", x.days(2), 72);
        shiftsAre("three days", x, 0, 4, 0);
        Check.due("days(2)", x.days(2), 120);
        shiftsAre("five days", x, 3, 4, 0);
        Check.due("has(8)", x.has(8), 3);
        // by the seed 0: 0 2, 1 2, 0 1, 0 1, 2 1
        x.seed(0);
        Check.due("days(5)", x.days(5), 240);
        shiftsAre("ten days", x, 4, 5, 0);
        // without a seed it is 1: 0 0 for one street, each day
        x = Check.townOf("place a;place b;street s from a to b takes 2 round 48 shift 1 wide tide;");
        Check.due("days(4)", x.days(4), 96);
        shiftsAre("four days of one street", x, 45);
        for (int n : new int[] {0, -1, 31, Integer.MAX_VALUE, Integer.MIN_VALUE}) {
            Check.due("days(" + n + ")", x.days(n), NONE);
        }
        Check.due("status(2)", x.status(2), 5);
        // without streets nothing is drawn
        Check.town(x, "begin 279;");
        x.seed(7);
        for (int k = 0; k < 13; k++) {
            Check.due("days(30)", x.days(30), 279 + 720 * (k + 1));
        }
        Check.due("days(16)", x.days(16), NONE);
        Check.due("days(15)", x.days(15), 9999);
        Check.due("days(1)", x.days(1), NONE);
        Check.town(x, "place a;place b;street s from a to b takes 2 round 9 shift 1 wide tide;"
            + "street t from a to b takes 2 round 9 shift 1 wide tide;street u from a to b takes 2 round 9 shift 1 wide tide;");
        x.days(4);
        shiftsAre("the seed stays", x, 0, 0, 1);
    }

    private static void undo() {
        BreathTown x = town();
        Check.due("undo() of nothing", x.undo(), false);
        Check.due("status(3)", x.status(3), 1);
        x.go(3);
        x.send(0);
        x.hold(1, 2);
        x.seed(7);
        x.days(3);
        Check.due("a refused act", x.go(0), NONE);
        Check.due("has(8)", x.has(8), 4);
        shiftsAre("held and drawn", x, 0, 2, 0);
        Check.due("undo() of days", x.undo(), true);
        shiftsAre("undrawn", x, 0, 3, 0);
        Check.due("has(3)", x.has(3), 3);
        Check.due("undo() of hold", x.undo(), true);
        shiftsAre("not held", x, 0, 5, 0);
        Check.due("walker(0, 3)", x.walker(0, 3), 5);
        Check.due("undo() of send", x.undo(), true);
        Check.due("walker(0, 1)", x.walker(0, 1), 0);
        Check.due("walker(0, 2)", x.walker(0, 2), 1);
        Check.due("walker(0, 3)", x.walker(0, 3), 0);
        Check.due("undo() of go", x.undo(), true);
        Check.due("has(3)", x.has(3), 0);
        Check.due("has(8)", x.has(8), 0);
        Check.due("undo() of nothing", x.undo(), false);
        Check.due("status(3)", x.status(3), 2);
        // the seed has gone on: of 2 1, 1 1, 1 0, 0 0, 0 0 the fourth and fifth days are left
        x.days(2);
        shiftsAre("the seed is not undone", x, 3, 5, 0);
        Check.due("has(7)", x.has(7), 0);
        Check.tape(x, 0, 0, 0, 9);
        x.see();
        x.undo();
        Check.due("what was seen stays", x.has(7), 1);
    }

    private static void undoTwenty() {
        BreathTown x = town();
        for (int k = 1; k <= 25; k++) {
            x.go(k);
            Check.due("has(8)", x.has(8), Math.min(k, 20));
        }
        Check.due("has(3)", x.has(3), 325);
        int hour = 325;
        for (int k = 25; k > 5; k--) {
            hour -= k;
            Check.due("undo()", x.undo(), true);
            Check.due("has(3)", x.has(3), hour);
        }
        Check.due("undo() of the 21st", x.undo(), false);
        Check.due("has(3)", x.has(3), 15);
        x.go(1);
        Check.due("undo() again", x.undo(), true);
        Check.due("has(3)", x.has(3), 15);
    }

    private static void seed() {
        BreathTown x = town();
        Check.due("seed(0)", x.seed(0), true);
        Check.due("seed(most)", x.seed(Integer.MAX_VALUE), true);
        Check.due("seed(7)", x.seed(7), true);
        Check.due("seed(-1)", x.seed(-1), false);
        Check.due("seed(least)", x.seed(Integer.MIN_VALUE), false);
        Check.due("status(4)", x.status(4), 2);
        Check.due("has(8)", x.has(8), 0);
        x.days(5);
        shiftsAre("seed 7", x, 3, 4, 0);
        x.seed(Integer.MAX_VALUE);
        // draws of 3: 2 0, 0 1, 0 2
        x.days(3);
        shiftsAre("the greatest seed", x, 4, 4, 0);
    }
}
