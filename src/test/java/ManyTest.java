/** Promises 20 and 21: rows, doctors. */
final class ManyTest {
    private static final int NONE = BreathTown.NONE;

    public static void main(String[] args) {
        together();
        bestOrder();
        wrongRows();
        doctors();
        allHours();
        Check.finish("ManyTest");
    }

    private static BreathTown oneStreet(String walkers) {
        return Check.townOf("place a;place b;place c;street s from a to b takes 2 round 1 shift 0 wide 10;" + walkers);
    }

    private static void rowsAre(String name, BreathTown x, int n, int last, int... orderThenArrivals) {
        Check.due(name + ": last", x.rows(n, NONE), last);
        for (int k = 0; k < n; k++) {
            Check.due(name + ": order " + k, x.rows(n, k), last == NONE ? NONE : orderThenArrivals[k]);
            Check.due(name + ": arrival " + k, x.rows(n, 10 + k), last == NONE ? NONE : orderThenArrivals[n + k]);
        }
        for (int k : new int[] {-2, n, 9, 10 + n, 20, Integer.MAX_VALUE, Integer.MIN_VALUE}) {
            Check.due(name + ": rows " + k, x.rows(n, k), NONE);
        }
    }

    private static void together() {
        rowsAre("both fit", oneStreet("walker v broad 6 at a to b;walker w broad 4 at b to a;"), 2, 2, 0, 1, 2, 2);
        BreathTown x = oneStreet("walker v broad 6 at a to b;walker w broad 5 at b to a;walker u broad 4 at a to b;"
            + "walker z broad 10 at a to b;");
        rowsAre("one", x, 1, 2, 0, 2);
        rowsAre("one waits", x, 2, 4, 0, 1, 2, 4);
        rowsAre("the third goes along", x, 3, 4, 0, 1, 2, 2, 4, 2);
        rowsAre("the fourth alone", x, 4, 6, 0, 1, 2, 3, 2, 4, 2, 6);
        Check.due("a way alone is as it was", x.way(1, NONE), 2);
        Check.due("nobody has gone", x.has(8), 0);
        x = oneStreet("walker v broad 6 at a to b;walker w broad 5 at a to c;");
        rowsAre("one can't arrive", x, 2, NONE);
        rowsAre("the other can", x, 1, 2, 0, 2);
    }

    private static void bestOrder() {
        // wide in hours 0 and 1 of 12 for 9, in 6 to 9 for 3: the broad one must go first
        BreathTown x = Check.townOf("place a;place b;"
            + "street s from a to b takes 1 round 12 shift 0 wide max(min(1,2-min(2,tide))*9,min(1,tide/6)*3);"
            + "walker v broad 3 at a to b;walker w broad 8 at a to b;walker u broad 7 at a to b;");
        rowsAre("broad ones first", x, 3, 7, 1, 2, 0, 7, 1, 2);
        rowsAre("two", x, 2, 2, 0, 1, 1, 2);
        // who is free later goes by his own hour
        x = oneStreet("walker v broad 6 at a to b;walker w broad 6 at a to b;");
        x.send(0);
        rowsAre("free later", x, 2, 4, 0, 1, 4, 2);
        // by the last arrival first, then by their sum
        x = Check.townOf("place a;place b;place c;street s from a to b takes 1 round 1 shift 0 wide 9;"
            + "street t from b to c takes 3 round 1 shift 0 wide 9;walker v broad 9 at a to c;walker w broad 9 at a to b;");
        rowsAre("the last one first", x, 2, 4, 0, 1, 4, 2);
        x = Check.townOf("place a;place b;place c;street s from a to b takes 1 round 1 shift 0 wide 9;"
            + "street t from b to c takes 1 round 24 shift 13 wide tide/23*9;walker v broad 9 at a to c;walker w broad 9 at a to b;");
        rowsAre("the least sum", x, 2, 11, 1, 0, 11, 1);
        x = Check.townOf("place a;place b;place c;street s from a to b takes 2 round 4 shift 0 wide 9-tide/2*9;"
            + "street t from a to c takes 1 round 1 shift 0 wide 9;street u from c to b takes 4 round 1 shift 0 wide 9;"
            + "walker v broad 5 at a to b;walker w broad 5 at a to b;walker z broad 5 at a to b;");
        rowsAre("three by ways of their own", x, 3, 6, 0, 1, 2, 2, 5, 6);
    }

    private static void wrongRows() {
        BreathTown x = oneStreet("walker v broad 6 at a to b;walker w broad 4 at b to a;");
        for (int n : new int[] {0, -1, 3, 4, 5, Integer.MAX_VALUE, Integer.MIN_VALUE}) {
            Check.due("rows(" + n + ")", x.rows(n, NONE), NONE);
        }
        x = oneStreet("");
        Check.due("rows(1) of nobody", x.rows(1, NONE), NONE);
        x = oneStreet("walker u broad 1 at a to b;walker v broad 1 at a to b;walker w broad 1 at a to b;"
            + "walker x broad 1 at a to b;walker y broad 1 at a to b;");
        Check.due("rows(4) of five", x.rows(4, NONE), 2);
        Check.due("rows(5) of five", x.rows(5, NONE), NONE);
    }

    private static void doctorsAre(String name, BreathTown x, int broad, int within, int... places) {
        int count = places.length == 0 ? NONE : places.length;
        Check.due(name + ": how many", x.doctors(broad, within, NONE), count);
        for (int k = 0; k < 3; k++) {
            Check.due(name + ": place " + k, x.doctors(broad, within, k), k < places.length ? places[k] : NONE);
        }
        Check.due(name + ": place 3", x.doctors(broad, within, 3), NONE);
        Check.due(name + ": place -2", x.doctors(broad, within, -2), NONE);
    }

    private static void doctors() {
        BreathTown x = Check.townOf("place a;place b;place c;street s from a to b takes 1 round 1 shift 0 wide 9;"
            + "street t from b to c takes 1 round 1 shift 0 wide 9;");
        doctorsAre("in the middle", x, 9, 1, 1);
        doctorsAre("the first that will do", x, 9, 2, 0);
        doctorsAre("at once", x, 9, 0, 0, 1, 2);
        doctorsAre("too broad", x, 10, 400, 0, 1, 2);
        Check.town(x, "place a;place b;place c;place d;street s from a to d takes 4 round 1 shift 0 wide 9;");
        doctorsAre("the first three", x, 1, 4, 0, 1, 2);
        doctorsAre("three are not enough", x, 1, 3);
        Check.town(x, "place a;place b;street s from a to b takes 2 round 3 shift 0 wide 9-tide*9;");
        doctorsAre("never two hours", x, 1, 400, 0, 1);
        Check.town(x, "place a;place b;street s from a to b takes 2 round 3 shift 0 wide 9-tide/2*9;");
        doctorsAre("two hours of three, within 3", x, 1, 3, 0, 1);
        doctorsAre("two hours of three, within 4", x, 1, 4, 0);
        Check.town(x, "place a;");
        doctorsAre("one place", x, 99, 0, 0);
        int[][] wrong = {{0, 0}, {100, 0}, {-1, 0}, {1, -1}, {1, 401}, {Integer.MAX_VALUE, 0}, {1, Integer.MIN_VALUE}};
        for (int[] w : wrong) {
            Check.due("doctors(" + w[0] + ", " + w[1] + ")", x.doctors(w[0], w[1], NONE), NONE);
        }
        Check.due("doctors of no place", new BreathTown().doctors(1, 0, NONE), NONE);
    }

    private static void allHours() {
        // closed in hour 0 of the day alone: one call in 24 waits an hour
        BreathTown x = Check.townOf("place a;place b;street s from a to b takes 1 round 1 shift 0 wide min(clock,1)*9;begin 5;");
        doctorsAre("within 1", x, 9, 1, 0, 1);
        doctorsAre("within 2", x, 9, 2, 0);
        // open from 0 to 23 of day 0, then never: a call in 23 has the last hour, one in 24 none
        x = Check.townOf("place a;place b;street s from a to b takes 1 round 1 shift 0 wide max(1-day,0)*9;");
        doctorsAre("all of the 24 hours", x, 9, 1, 0);
        x.go(1);
        doctorsAre("not all of the 24 hours", x, 9, 400, 0, 1);
        // open from 408 on, for calls in 8 to 31: within 400 the last hour of the first call is 408
        x = Check.townOf("place a;place b;street s from a to b takes 1 round 1 shift 0 wide max(day-16,0)*9;begin 8;");
        doctorsAre("within 400 from 8", x, 9, 400, 0, 1);
        x.go(1);
        doctorsAre("within 400 from 9", x, 9, 400, 0);
        doctorsAre("within 399 from 9", x, 9, 399, 0, 1);
        // each place by one or the other, not the same in each hour
        x = Check.townOf("place a;place b;place c;place d;street s from a to b takes 1 round 2 shift 0 wide tide*9;"
            + "street t from c to b takes 1 round 2 shift 1 wide tide*9;street u from c to d takes 1 round 1 shift 0 wide 9;");
        doctorsAre("b by turns", x, 9, 1, 0, 2);
    }
}
