/** The sentences of the promises 20 and 21 (rows, doctors), and of their terms. */
final class EdgesOfMany {
    private static final int NONE = BreathTown.NONE;
    private static final int MOST = Integer.MAX_VALUE;
    private static final int LEAST = Integer.MIN_VALUE;
    private static final String TWO = "place a;place b;";
    private static final String THREE = "place a;place b;place c;";
    private static final String OPEN = " round 1 shift 0 wide 9;";
    /** Wide from hour 408 on, which is the beginning of day 17; never ahead of it. */
    private static final String LATE = " round 1 shift 0 wide max(day-16,0)*9;";
    /** Wide in hour 408 alone. */
    private static final String ONCE = " round 1 shift 0 wide max(1-clock,0)*max(day-16,0)*max(18-day,0)*9;";

    private EdgesOfMany() {
    }

    static void all() {
        leastNumbers();
        allWhoAreInIt();
        toldAheadHaveTheirs();
        eachByHisWay();
        allArrive();
        lastOneSoonest();
        leastSum();
        firstByWalkers();
        fourByEight();
        rowsAnswers();
        rowsOfNone();
        fewestDoctors();
        atMostThree();
        firstByPlaces();
        hoursOfTheDay();
        within();
        doctorsAnswers();
        doctorsOfNone();
    }

    private static String street(String name, String from, String to, int takes, String rest) {
        return "street " + name + " from " + from + " to " + to + " takes " + takes + rest;
    }

    private static String walker(String name, int broad, String at, String to) {
        return "walker " + name + " broad " + broad + " at " + at + " to " + to + ";";
    }

    /** The order, then of each WALKER his ARRIVAL; nothing of all that when the last ARRIVAL is NONE. */
    private static void rowsAre(String name, BreathTown x, int n, int last, int... orderThenArrivals) {
        Check.due(name + ": rows(" + n + ", NONE)", x.rows(n, NONE), last);
        for (int k = 0; k < n; k++) {
            Check.due(name + ": rows(" + n + ", " + k + ")", x.rows(n, k), last == NONE ? NONE : orderThenArrivals[k]);
            Check.due(name + ": rows(" + n + ", " + (10 + k) + ")", x.rows(n, 10 + k), last == NONE ? NONE : orderThenArrivals[n + k]);
        }
    }

    // ---- rows

    private static void leastNumbers() {
        Check.stands(20, "ROWS: the WALKERS with the least numbers (4 at most are told) go one after the other told, in an order,");
        String town = TWO + "street s from a to b takes 2 round 1 shift 0 wide 10;" + walker("t", 10, "a", "b") + walker("u", 10, "b", "a")
            + walker("v", 10, "a", "b") + walker("w", 10, "b", "a") + walker("x", 10, "a", "b");
        BreathTown x = Check.townOf(town);
        rowsAre("one", x, 1, 2, 0, 2);
        rowsAre("two", x, 2, 4, 0, 1, 2, 4);
        rowsAre("three", x, 3, 6, 0, 1, 2, 2, 4, 6);
        rowsAre("four", x, 4, 8, 0, 1, 2, 3, 2, 4, 6, 8);
        rowsAre("five", x, 5, NONE);
        Check.due("nothing has been done", x.has(8), 0);
        Check.due("nobody has gone", x.has(6), 5);
        Check.due("his WAY alone is as it was", x.way(3, NONE), 2);
        Check.due("the street is as it was", x.next(0, 10, 0), 0);
    }

    private static void allWhoAreInIt() {
        Check.stands(20, "but in each HOUR a STREET must be as wide as all who are in it together");
        String s = "street s from a to b takes 2 round 1 shift 0 wide 10;";
        int[][] broads = {{6, 3, 2, 2}, {6, 4, 2, 2}, {6, 5, 2, 4}, {1, 9, 2, 2}, {1, 10, 2, 4}, {10, 1, 2, 4}};
        for (int[] b : broads) {
            rowsAre(b[0] + " and " + b[1], Check.townOf(TWO + s + walker("v", b[0], "a", "b") + walker("w", b[1], "b", "a")), 2, b[3], 0, 1,
                b[2], b[3]);
        }
        rowsAre("5, 3 and 2", Check.townOf(TWO + s + walker("v", 5, "a", "b") + walker("w", 3, "b", "a") + walker("x", 2, "a", "b")), 3, 2,
            0, 1, 2, 2, 2, 2);
        rowsAre("5, 3 and 3", Check.townOf(TWO + s + walker("v", 5, "a", "b") + walker("w", 3, "b", "a") + walker("x", 3, "a", "b")), 3, 4,
            0, 1, 2, 2, 2, 4);
        // w is at a in 1: s holds v in 0 and 1, so they are in it together in 1 if w goes on at once
        String far = s + street("r", "c", "a", 1, OPEN);
        rowsAre("together in one hour", Check.townOf(THREE + far + walker("v", 5, "a", "b") + walker("w", 5, "c", "b")), 2, 3, 0, 1, 2, 3);
        rowsAre("not together in one hour", Check.townOf(THREE + far + walker("v", 6, "a", "b") + walker("w", 5, "c", "b")), 2, 4, 0, 1, 2, 4);
        // one of another street is in nobody's way
        rowsAre("two streets", Check.townOf(TWO + s + street("r", "a", "b", 2, " round 1 shift 0 wide 10;") + walker("v", 10, "a", "b")
            + walker("w", 10, "a", "b")), 2, 2, 0, 1, 2, 2);
        // as wide as all together in each hour: 10 7 10 7 .. with 6 and 4, 5, by takes 1
        String turns = "street s from a to b takes 1 round 2 shift 0 wide 10-tide*3;";
        rowsAre("together in 0", Check.townOf(TWO + turns + walker("v", 6, "a", "b") + walker("w", 4, "a", "b")), 2, 1, 0, 1, 1, 1);
        rowsAre("one by one", Check.townOf(TWO + turns + walker("v", 6, "a", "b") + walker("w", 5, "a", "b")), 2, 2, 0, 1, 1, 2);
        rowsAre("one by one, the broad one first", Check.townOf(TWO + turns + walker("v", 6, "a", "b") + walker("w", 8, "a", "b")), 2, 2, 1, 0,
            2, 1);
    }

    private static void toldAheadHaveTheirs() {
        Check.stands(20, "(those told ahead have theirs).");
        // w alone would be in s in 1 and 2; v has it in 0 and 1 and keeps it: w goes in 2
        BreathTown x = Check.townOf(THREE + "street s from a to b takes 2 round 1 shift 0 wide 9;" + street("r", "c", "a", 1, OPEN)
            + walker("v", 9, "a", "b") + walker("w", 9, "c", "b"));
        rowsAre("v ahead", x, 2, 4, 0, 1, 2, 4);
        // w, told ahead, is in s in 4 and 5; v, who could go from an hour on, is out of s by then, or he waits for 6
        for (int hour = 0; hour <= 3; hour++) {
            x = Check.townOf(THREE + "street s from a to b takes 2 round 1 shift 0 wide min(max(clock+1-" + hour + ",0),1)*9;"
                + street("r", "c", "a", 4, OPEN) + walker("w", 9, "c", "b") + walker("v", 9, "a", "b"));
            if (hour < 3) {
                rowsAre("v in " + hour, x, 2, 6, 0, 1, 6, hour + 2);
            } else {
                // w first: there in 6, v in 8; v first: in 3 and 4, then w in 5 and 6, which is sooner
                rowsAre("v in 3", x, 2, 7, 1, 0, 7, 5);
            }
        }
    }

    private static void eachByHisWay() {
        Check.stands(20, "each by his WAY,");
        // behind v, w is there in 2 by s in 1 or by t in 0, and takes the street with the least number; x can go by s alone
        String s = "street s from a to b takes 1 round 1 shift 0 wide 10;";
        String three = walker("v", 10, "a", "b") + walker("w", 9, "a", "b") + walker("x", 10, "a", "b");
        rowsAre("w by s, so x ahead of him", Check.townOf(TWO + s + street("t", "a", "b", 2, OPEN) + three), 3, 2, 0, 2, 1, 1, 2, 2);
        rowsAre("w by t", Check.townOf(TWO + street("t", "a", "b", 2, OPEN) + s + three), 3, 2, 0, 1, 2, 1, 2, 2);
        // setting out when he is free
        BreathTown x = Check.townOf(TWO + s + walker("v", 9, "a", "b") + walker("w", 9, "a", "b"));
        x.send(0);
        rowsAre("v free in 1", x, 2, 2, 0, 1, 2, 1);
        x.go(5);
        rowsAre("both free in 5", x, 2, 7, 0, 1, 6, 7);
    }

    private static void allArrive() {
        Check.stands(20, "THE BEST ORDER: all arrive,");
        // s is wide in hour 0 alone; v can go by it alone, w by t as well
        BreathTown x = Check.townOf(TWO + street("s", "a", "b", 1, " round 1 shift 0 wide 9-clock*9-day*99;")
            + "street t from a to b takes 4 round 1 shift 0 wide 5;" + walker("w", 5, "a", "b") + walker("v", 6, "a", "b"));
        rowsAre("w waives s", x, 2, 4, 1, 0, 4, 1);
        // by 400 HOURS behind setting out: s is wide in 408 alone
        String both = TWO + street("s", "a", "b", 1, ONCE);
        for (int begin = 8; begin <= 9; begin++) {
            x = Check.townOf(both + walker("v", 5, "a", "b") + walker("w", 4, "b", "a") + walker("x", 1, "b", "a") + "begin " + begin + ";");
            rowsAre("one from " + begin, x, 1, begin < 9 ? NONE : 409, 0, 409);
            rowsAre("two from " + begin, x, 2, begin < 9 ? NONE : 409, 0, 1, 409, 409);
            rowsAre("three from " + begin, x, 3, NONE);
        }
        x = Check.townOf(TWO + street("s", "a", "b", 1, LATE) + walker("v", 9, "a", "b") + walker("w", 9, "a", "b") + "begin 9;");
        rowsAre("the second one 401 hours behind", x, 2, NONE);
        x = Check.townOf(TWO + street("s", "a", "b", 1, LATE) + walker("v", 9, "a", "b") + walker("w", 9, "a", "b") + "begin 10;");
        rowsAre("the second one 400 hours behind", x, 2, 410, 0, 1, 409, 410);
    }

    private static void lastOneSoonest() {
        Check.stands(20, "the last one as soon as can be;");
        // s is wide 9 5 5 14 ..: v (5) ahead, then w (9) in 3: 4 and 4; w ahead: 1, and v in 5
        BreathTown x = Check.townOf(THREE + street("s", "a", "b", 1, " round 24 shift 0 wide 9-min(tide,1)*4+tide/3*9;")
            + street("t", "b", "c", 3, OPEN) + walker("v", 5, "a", "c") + walker("w", 9, "a", "b"));
        rowsAre("4 and 4, not 5 and 1", x, 2, 4, 0, 1, 4, 4);
        x = Check.townOf(THREE + street("s", "a", "b", 1, " round 24 shift 0 wide 9-min(tide,1)*4+tide/3*9;")
            + street("t", "b", "c", 3, OPEN) + walker("w", 9, "a", "b") + walker("v", 5, "a", "c"));
        rowsAre("4 and 4, not 1 and 5", x, 2, 4, 1, 0, 4, 4);
        // t takes 2: 4 as the last one in either order, so the least sum decides, 1 and 4
        x = Check.townOf(THREE + street("s", "a", "b", 1, " round 24 shift 0 wide 9-min(tide,1)*4+tide/3*9;")
            + street("t", "b", "c", 2, OPEN) + walker("v", 5, "a", "c") + walker("w", 9, "a", "b"));
        rowsAre("4 and 1, not 3 and 4", x, 2, 4, 1, 0, 4, 1);
    }

    private static void leastSum() {
        Check.stands(20, "of like ones the least sum of ARRIVALS,");
        // t is wide in 10 alone: v is there in 11 in either order
        String s = THREE + street("s", "a", "b", 1, OPEN) + street("t", "b", "c", 1, " round 24 shift 0 wide max(1-max(tide-10,10-tide),0)*9;");
        rowsAre("11 and 1, not 11 and 2", Check.townOf(s + walker("v", 9, "a", "c") + walker("w", 9, "a", "b")), 2, 11, 1, 0, 11, 1);
        rowsAre("1 and 11", Check.townOf(s + walker("w", 9, "a", "b") + walker("v", 9, "a", "c")), 2, 11, 0, 1, 1, 11);
    }

    private static void firstByWalkers() {
        Check.stands(20, "then the first by WALKERS.");
        // only in hour 0 there is room for 9
        String s = TWO + street("s", "a", "b", 1, " round 1 shift 0 wide 9-min(clock+day,1)*4;");
        rowsAre("the second, then the others", Check.townOf(s + walker("v", 5, "a", "b") + walker("w", 9, "a", "b") + walker("x", 5, "a", "b")), 3, 3,
            1, 0, 2, 2, 1, 3);
        rowsAre("the third, then the others", Check.townOf(s + walker("v", 5, "a", "b") + walker("w", 5, "a", "b") + walker("x", 9, "a", "b")), 3, 3,
            2, 0, 1, 2, 3, 1);
        rowsAre("the fourth, then the others", Check.townOf(s + walker("v", 5, "a", "b") + walker("w", 5, "a", "b") + walker("x", 5, "a", "b")
            + walker("z", 9, "a", "b")), 4, 4, 3, 0, 1, 2, 2, 3, 4, 1);
        rowsAre("as they are", Check.townOf(s + walker("v", 5, "a", "b") + walker("w", 5, "a", "b")), 2, 2, 0, 1, 1, 2);
    }

    private static void fourByEight() {
        Check.stands(20, "in each HOUR a STREET must be as wide as all who are in it together");
        // eight streets in a row; the last one takes 4, so that each waits there for those ahead
        StringBuilder b = new StringBuilder(EdgesOfText.many("place ", 9, ";"));
        for (int k = 0; k < 8; k++) {
            b.append(street("s" + (char) ('c' + k), "" + (char) ('c' + k), "" + (char) ('d' + k), k < 7 ? 1 : 4, OPEN));
        }
        for (int k = 0; k < 4; k++) {
            b.append(walker("w" + (char) ('a' + k), 9, "c", "k"));
        }
        rowsAre("four by eight", Check.townOf(b.toString()), 4, 23, 0, 1, 2, 3, 11, 15, 19, 23);
        // and back, with the long one at the beginning
        BreathTown x = Check.townOf(b.toString().replace("at c to k", "at k to c"));
        rowsAre("four by eight, back", x, 4, 23, 0, 1, 2, 3, 11, 15, 19, 23);
    }

    private static void rowsAnswers() {
        Check.stands(20, "ROWS of n WALKERS (1 .. 4), THE BEST ORDER: ARRIVAL of the last one (k NONE), who goes k-th (0 .. 3), "
            + "ARRIVAL of WALKER k (k 10 more).");
        // only in hour 0 there is room for 9, then for 8, 7, 6: the broader, the sooner
        BreathTown x = Check.townOf(TWO + street("s", "a", "b", 1, " round 48 shift 0 wide 9-tide;") + walker("u", 7, "a", "b")
            + walker("v", 9, "a", "b") + walker("w", 6, "a", "b") + walker("z", 8, "a", "b"));
        rowsAre("one", x, 1, 1, 0, 1);
        rowsAre("two", x, 2, 2, 1, 0, 2, 1);
        rowsAre("three", x, 3, 3, 1, 0, 2, 2, 1, 3);
        rowsAre("four", x, 4, 4, 1, 3, 0, 2, 3, 1, 4, 2);
        for (int k : new int[] {-2, 4, 9, 14, 20, 100, MOST, LEAST}) {
            Check.due("rows(4, " + k + ")", x.rows(4, k), NONE);
        }
        for (int k : new int[] {1, 2, 3, 11, 12, 13}) {
            Check.due("rows(1, " + k + ")", x.rows(1, k), NONE);
        }
        Check.due("rows(2, 2)", x.rows(2, 2), NONE);
        Check.due("rows(2, 12)", x.rows(2, 12), NONE);
        Check.due("rows(3, 3)", x.rows(3, 3), NONE);
        Check.due("rows(3, 13)", x.rows(3, 13), NONE);
    }

    private static void rowsOfNone() {
        Check.stands(20, "NONE when not all can arrive, something can't be, or for others.");
        String s = THREE + street("s", "a", "b", 1, OPEN);
        BreathTown x = Check.townOf(s + walker("v", 9, "a", "b") + walker("w", 9, "b", "a") + walker("x", 9, "a", "c"));
        rowsAre("two arrive", x, 2, 2, 0, 1, 1, 2);
        rowsAre("the third can't", x, 3, NONE);
        rowsAre("there is no fourth", x, 4, NONE);
        x = Check.townOf(s + walker("v", 10, "a", "b") + walker("w", 9, "b", "a"));
        rowsAre("too broad", x, 1, NONE);
        rowsAre("the first is too broad", x, 2, NONE);
        for (int n : new int[] {0, -1, 3, 4, 5, MOST, LEAST}) {
            Check.due("rows(" + n + ", NONE)", x.rows(n, NONE), NONE);
        }
        StringBuilder six = new StringBuilder(s);
        for (int k = 0; k < 6; k++) {
            six.append(walker("w" + (char) ('a' + k), 1, "a", "b"));
        }
        x = Check.townOf(six.toString());
        Check.due("rows(4, NONE) of six", x.rows(4, NONE), 1);
        Check.due("rows(5, NONE) of six", x.rows(5, NONE), NONE);
        Check.due("rows(6, NONE) of six", x.rows(6, NONE), NONE);
        Check.due("rows(0, NONE) of six", x.rows(0, NONE), NONE);
        Check.due("rows(1, NONE) of none", Check.townOf(s).rows(1, NONE), NONE);
    }

    // ---- doctors

    private static void doctorsAre(String name, BreathTown x, int broad, int within, int... places) {
        Check.due(name + ": doctors(" + broad + ", " + within + ", NONE)", x.doctors(broad, within, NONE), places.length == 0 ? NONE : places.length);
        for (int k = 0; k < 4; k++) {
            Check.due(name + ": doctors(" + broad + ", " + within + ", " + k + ")", x.doctors(broad, within, k), k < places.length ? places[k] : NONE);
        }
    }

    private static void fewestDoctors() {
        Check.stands(21, "DOCTORS of a breadth: the fewest PLACES");
        BreathTown x = Check.townOf(THREE + street("s", "a", "b", 1, OPEN) + street("t", "b", "c", 1, OPEN));
        doctorsAre("in the middle", x, 9, 1, 1);
        doctorsAre("at the end", x, 9, 2, 0);
        doctorsAre("everywhere", x, 9, 0, 0, 1, 2);
        // one, the last of nine, rather than two or three
        StringBuilder b = new StringBuilder(EdgesOfText.many("place ", 9, ";"));
        for (int k = 0; k < 8; k++) {
            b.append(street("s" + (char) ('c' + k), "k", "" + (char) ('c' + k), 1, OPEN));
        }
        x = Check.townOf(b.toString());
        doctorsAre("the last of nine", x, 9, 1, 8);
        doctorsAre("by two streets", x, 9, 2, 0);
        doctorsAre("nine are too many", x, 9, 0);
        // two, the last ones of three and three, rather than three
        x = Check.townOf(EdgesOfText.many("place ", 6, ";") + street("s", "e", "c", 1, OPEN) + street("t", "e", "d", 1, OPEN)
            + street("u", "h", "f", 1, OPEN) + street("v", "h", "g", 1, OPEN));
        doctorsAre("the middles of two", x, 9, 1, 2, 5);
        doctorsAre("by two streets", x, 9, 2, 0, 3);
    }

    private static void atMostThree() {
        Check.stands(21, "(3 at most)");
        for (int places = 1; places <= 9; places++) {
            BreathTown x = Check.townOf(EdgesOfText.many("place ", places, ";"));
            Check.due(places + " without streets", x.doctors(1, 400, NONE), places <= 3 ? places : NONE);
            for (int k = 0; k < 3; k++) {
                Check.due(places + " without streets: " + k, x.doctors(1, 400, k), places <= 3 && k < places ? k : NONE);
            }
        }
        // nine places, each three by streets
        String stars = EdgesOfText.many("place ", 9, ";") + street("s", "c", "d", 1, OPEN) + street("t", "d", "e", 1, OPEN)
            + street("u", "f", "g", 1, OPEN) + street("v", "g", "h", 1, OPEN) + street("w", "i", "k", 1, OPEN) + street("x", "j", "k", 1, OPEN);
        doctorsAre("three middles", Check.townOf(stars), 9, 1, 1, 4, 8);
        doctorsAre("three of nine", Check.townOf(stars), 9, 2, 0, 3, 6);
        doctorsAre("three are not enough", Check.townOf(stars), 9, 0);
    }

    private static void firstByPlaces() {
        Check.stands(21, "of like ones the first by PLACES.");
        String pairs = "place a;place b;place c;place d;place e;place f;" + street("s", "a", "d", 1, OPEN) + street("t", "b", "e", 1, OPEN);
        doctorsAre("a b c, not a b f, d e f", Check.townOf(pairs + street("u", "c", "f", 1, OPEN)), 9, 1, 0, 1, 2);
        // f is reached by a and by e, c by e alone: a then e, not b and others
        doctorsAre("a e, not d e", Check.townOf("place a;place b;place c;place d;place e;" + street("s", "a", "d", 1, OPEN)
            + street("t", "b", "e", 1, OPEN) + street("u", "c", "e", 1, OPEN)), 9, 1, 0, 4);
        doctorsAre("b e, not d e", Check.townOf("place a;place b;place c;place d;place e;" + street("s", "a", "e", 1, OPEN)
            + street("t", "b", "d", 1, OPEN) + street("u", "c", "e", 1, OPEN)), 9, 1, 1, 4);
        doctorsAre("the first of a circle", Check.townOf(THREE + street("s", "a", "b", 1, OPEN) + street("t", "b", "c", 1, OPEN)
            + street("u", "c", "a", 1, OPEN)), 9, 1, 0);
    }

    private static void hoursOfTheDay() {
        Check.stands(21, "so that, in whichever HOUR of the 24 from now on a call comes, each PLACE is reached from one of these within so many "
            + "HOURS (a PLACE where one is at once);");
        // wide in all hours of day 0 alone: the last call from 0 on is in 23
        BreathTown x = Check.townOf(TWO + street("s", "a", "b", 1, " round 1 shift 0 wide max(1-day,0)*9;"));
        doctorsAre("calls in 0 to 23", x, 9, 1, 0);
        x.go(1);
        doctorsAre("calls in 1 to 24", x, 9, 1, 0, 1);
        doctorsAre("calls in 1 to 24, within 400", x, 9, 400, 0, 1);
        // wide but in hour 23: the call in 23 is the last one
        x = Check.townOf(TWO + street("s", "a", "b", 1, " round 1 shift 0 wide 9-clock/23*9;"));
        doctorsAre("not in 23", x, 9, 1, 0, 1);
        doctorsAre("not in 23, in 24 again", x, 9, 2, 0);
        // wide but in hour 0: the call in 0 is the first one
        x = Check.townOf(TWO + street("s", "a", "b", 1, " round 1 shift 0 wide min(clock+day,1)*9;"));
        doctorsAre("not in 0", x, 9, 1, 0, 1);
        doctorsAre("not in 0, in 1", x, 9, 2, 0);
        x.go(1);
        doctorsAre("from 1 on", x, 9, 1, 0);
        // b is reached from a in even hours, from c in odd ones
        x = Check.townOf("place a;place b;place c;place d;" + street("s", "a", "b", 1, " round 2 shift 1 wide tide*9;")
            + street("t", "c", "b", 1, " round 2 shift 0 wide tide*9;") + street("u", "c", "d", 1, OPEN));
        doctorsAre("by turns", x, 9, 1, 0, 2);
        x.hold(0, 1);
        // both in odd hours alone: one must be at b; a and d are reached in each hour by being there or from c
        doctorsAre("not by turns", x, 9, 1, 0, 1, 2);
        // the places where one is, at once
        doctorsAre("all three", Check.townOf(THREE + street("s", "a", "b", 1, OPEN)), 9, 0, 0, 1, 2);
        doctorsAre("a and c", Check.townOf(THREE + street("s", "a", "b", 1, OPEN)), 9, 1, 0, 2);
        doctorsAre("too broad", Check.townOf(THREE + street("s", "a", "b", 1, OPEN)), 10, 400, 0, 1, 2);
    }

    private static void within() {
        Check.stands(21, "each PLACE is reached from one of these within so many HOURS");
        for (int takes = 1; takes <= 4; takes++) {
            BreathTown x = Check.townOf(TWO + street("s", "a", "b", takes, OPEN));
            doctorsAre("takes " + takes, x, 9, takes, 0);
            doctorsAre("takes " + takes + ", one less", x, 9, takes - 1, 0, 1);
            // with a wait for hour 408
            for (int begin = 7 + takes; begin <= 9 + takes; begin++) {
                x = Check.townOf(TWO + street("s", "a", "b", takes, LATE) + "begin " + begin + ";");
                int hours = 408 + takes - begin;
                if (hours <= 400) {
                    doctorsAre("from " + begin, x, 9, hours, 0);
                }
                doctorsAre("from " + begin + ", one less", x, 9, hours - 1, 0, 1);
            }
        }
        // by several streets with waits: b in 3 to 4, c in 6 to 8, of eight
        BreathTown x = Check.townOf(THREE + street("s", "a", "b", 1, " round 8 shift 0 wide tide/3*9;")
            + street("t", "b", "c", 2, " round 8 shift 0 wide tide/6*9;"));
        // from a: the call in tide 7 passes s at once, then waits for t until tide 6, in 8 + 6 = 14, so there in 16: 9 later;
        // the call in 0 passes t in 6, there in 8; the call in 6 passes s in 6, t in 14, there in 16: 10 later
        // from c back: the call in 7 waits until 14, at b in 16 (tide 0), then s in 19, at a in 20: 13 later
        // from b: to a from tide 0: in 3, there in 4: 4 later; to c from 7: in 14, there in 16: 9 later
        doctorsAre("from b within 9", x, 9, 9, 1);
        doctorsAre("from a within 10", x, 9, 10, 0);
        doctorsAre("two within 8", x, 9, 8, 0, 2);
        doctorsAre("two within 4", x, 9, 4, 0, 2);
        doctorsAre("three within 3", x, 9, 3, 0, 1, 2);
    }

    private static void doctorsAnswers() {
        Check.stands(21, "DOCTORS of a breadth (1 .. 99), within HOURS (0 .. 400): how many (k NONE), the k-th PLACE.");
        BreathTown x = Check.townOf(TWO + "place c;" + "street s from a to b takes 1 round 1 shift 0 wide 99;"
            + "street t from b to c takes 1 round 1 shift 0 wide 1;");
        doctorsAre("broad 1", x, 1, 1, 1);
        doctorsAre("broad 2", x, 2, 1, 0, 2);
        doctorsAre("broad 99", x, 99, 1, 0, 2);
        doctorsAre("within 0", x, 1, 0, 0, 1, 2);
        doctorsAre("within 400", x, 1, 400, 0);
        for (int k : new int[] {-2, 1, 2, 3, MOST, LEAST}) {
            Check.due("doctors(1, 1, " + k + ")", x.doctors(1, 1, k), NONE);
        }
        for (int k : new int[] {-2, 3, 4, MOST, LEAST}) {
            Check.due("doctors(1, 0, " + k + ")", x.doctors(1, 0, k), NONE);
        }
    }

    private static void doctorsOfNone() {
        Check.stands(21, "NONE when 3 are not enough, something can't be, or there are no PLACES.");
        BreathTown x = Check.townOf(THREE);
        doctorsAre("three", x, 1, 0, 0, 1, 2);
        doctorsAre("three are not enough", Check.townOf(THREE + "place d;"), 1, 0);
        int[][] none = {{0, 0}, {100, 0}, {-1, 0}, {MOST, 0}, {LEAST, 0}, {1, -1}, {1, 401}, {1, MOST}, {1, LEAST}};
        for (int[] n : none) {
            doctorsAre("something can't be", x, n[0], n[1]);
        }
        doctorsAre("no PLACES", new BreathTown(), 1, 0);
        doctorsAre("no PLACES", Check.townOf("begin 1;"), 1, 400);
        doctorsAre("one PLACE", Check.townOf("place a;"), 99, 0, 0);
    }
}
