/** The sentences of the promises 15 to 19 (way, arrival, stuck, needed, parade), and of their terms. */
final class EdgesOfWays {
    private static final int NONE = BreathTown.NONE;
    private static final int MOST = Integer.MAX_VALUE;
    private static final int LEAST = Integer.MIN_VALUE;
    private static final String TWO = "place a;place b;";
    private static final String FOUR = "place a;place b;place c;place d;";
    private static final String OPEN = " round 1 shift 0 wide 9;";
    /** Wide from hour 408 on, which is the beginning of day 17; never ahead of it. */
    private static final String LATE = " round 1 shift 0 wide max(day-16,0)*9;";

    private EdgesOfWays() {
    }

    static void all() {
        setsOut();
        waits();
        by400Hours();
        by400HoursWhenFree();
        soonest();
        toldFromItsEnd();
        takenAsSoonAsCanBe();
        wayAnswers();
        noWay();
        arrivals();
        arrivalOfNone();
        stuckWithoutWaiting();
        stuckOnTheShortest();
        stuckInTheStreet();
        stuckAnswers();
        needed();
        neededByHours();
        neededOfNone();
        procession();
        processionStreets();
        processionHours();
        paradeOfNone();
    }

    private static String street(String name, String from, String to, int takes, String rest) {
        return "street " + name + " from " + from + " to " + to + " takes " + takes + rest;
    }

    private static String begin(int hour) {
        return "begin " + hour + ";";
    }

    /** The arrival, then of each STREET its number and the HOUR in which it is taken. */
    private static void wayIs(String name, BreathTown x, int walker, int arrival, int... steps) {
        Check.due(name + ": way(" + walker + ", NONE)", x.way(walker, NONE), arrival);
        Check.due(name + ": way(" + walker + ", 20)", x.way(walker, 20), arrival == NONE ? NONE : steps.length / 2);
        for (int k = 0; k < steps.length / 2; k++) {
            Check.due(name + ": way(" + walker + ", " + k + ")", x.way(walker, k), steps[2 * k]);
            Check.due(name + ": way(" + walker + ", " + (100 + k) + ")", x.way(walker, 100 + k), steps[2 * k + 1]);
        }
        Check.due(name + ": no street more", x.way(walker, steps.length / 2), NONE);
        Check.due(name + ": no hour more", x.way(walker, 100 + steps.length / 2), NONE);
    }

    // ---- ways

    private static void setsOut() {
        Check.stands(15, "A WAY of a WALKER: from where he is to where he goes, setting out in the HOUR it is now, or in which he is free, "
            + "if that is later:");
        BreathTown x = Check.townOf(TWO + street("s", "a", "b", 3, OPEN) + "walker w broad 9 at a to b;begin 10;");
        wayIs("now", x, 0, 13, 0, 10);
        x.go(1);
        wayIs("an hour later", x, 0, 14, 0, 11);
        Check.due("send(0)", x.send(0), 14);
        wayIs("free in 14, in 11", x, 0, 17, 0, 14);
        x.go(2);
        wayIs("free in 14, in 13", x, 0, 17, 0, 14);
        x.go(1);
        wayIs("free in 14, in 14", x, 0, 17, 0, 14);
        x.go(1);
        wayIs("free in 14, in 15", x, 0, 18, 0, 15);
        // from where he is: the same two PLACES the other way, by a street that is open at the beginning only
        x = Check.townOf("place a;place b;place c;" + street("s", "a", "b", 1, OPEN) + street("t", "b", "c", 2, OPEN)
            + "walker w broad 9 at a to c;");
        wayIs("there", x, 0, 3, 0, 0, 1, 1);
        x.send(0);
        wayIs("and back", x, 0, 6, 1, 3, 0, 5);
    }

    private static void waits() {
        Check.stands(15, "At a PLACE one may WAIT as long as one likes.");
        // s is wide in tide 47 alone
        BreathTown x = Check.townOf(TWO + street("s", "a", "b", 1, " round 48 shift 0 wide tide/47*9;") + "walker w broad 9 at a to b;");
        wayIs("47 hours", x, 0, 48, 0, 47);
        // at a place in between, too
        x = Check.townOf("place a;place b;place c;" + street("s", "a", "b", 2, OPEN) + street("t", "b", "c", 1, LATE)
            + "walker w broad 9 at a to c;" + begin(9));
        wayIs("397 hours", x, 0, 409, 0, 9, 1, 408);
    }

    private static void by400Hours() {
        Check.stands(15, "he is there as soon as can be, each STREET passed by 400 HOURS behind setting out at the latest.");
        for (int takes = 1; takes <= 4; takes++) {
            String town = TWO + street("s", "a", "b", takes, LATE) + "walker w broad 9 at a to b;";
            wayIs("399 hours, takes " + takes, Check.townOf(town + begin(9 + takes)), 0, 408 + takes, 0, 408);
            wayIs("400 hours, takes " + takes, Check.townOf(town + begin(8 + takes)), 0, 408 + takes, 0, 408);
            wayIs("401 hours, takes " + takes, Check.townOf(town + begin(7 + takes)), 0, NONE);
        }
        // of two streets the last one counts from setting out, not from the place in between
        String town = "place a;place b;place c;" + street("s", "a", "b", 4, OPEN) + street("t", "b", "c", 2, LATE)
            + "walker w broad 9 at a to c;";
        wayIs("400 hours by two", Check.townOf(town + begin(10)), 0, 410, 0, 10, 1, 408);
        wayIs("401 hours by two", Check.townOf(town + begin(9)), 0, NONE);
        // late streets one behind the other
        town = "place a;place b;place c;" + street("s", "a", "b", 1, LATE) + street("t", "b", "c", 1, LATE)
            + "walker w broad 9 at a to c;";
        wayIs("400 hours by two late ones", Check.townOf(town + begin(10)), 0, 410, 0, 408, 1, 409);
        wayIs("401 hours by two late ones", Check.townOf(town + begin(9)), 0, NONE);
    }

    private static void by400HoursWhenFree() {
        Check.stands(15, "by 400 HOURS behind setting out at the latest.");
        // s is wide in the hours 0 to 8 alone: w goes by it and comes back by t
        String town = TWO + street("s", "a", "b", 4, " round 1 shift 0 wide 9-max(clock-8,0)*9-day*99;") + street("t", "a", "b", 1, LATE)
            + "walker w broad 9 at a to b;";
        BreathTown x = Check.townOf(town + begin(5));
        Check.due("send(0) in 5", x.send(0), 9);
        wayIs("400 hours behind 9, in 5", x, 0, 409, 1, 408);
        Check.due("arrival(0, 0) in 5", x.arrival(0, 0), 409);
        x = Check.townOf(town + begin(4));
        Check.due("send(0) in 4", x.send(0), 8);
        wayIs("401 hours behind 8, in 4", x, 0, NONE);
        x.go(5);
        wayIs("400 hours behind 9, in 9", x, 0, 409, 1, 408);
    }

    private static void soonest() {
        Check.stands(15, "he is there as soon as can be");
        // r takes 4 at once; p takes 1 from clock 3 on, so it is there at 4 too; from clock 2 on it is there sooner
        for (int clock = 1; clock <= 4; clock++) {
            BreathTown x = Check.townOf(TWO + street("r", "a", "b", 4, OPEN) + street("p", "a", "b", 1,
                " round 1 shift 0 wide clock/" + clock + "*9;") + "walker w broad 9 at a to b;");
            if (clock < 3) {
                wayIs("p from " + clock, x, 0, clock + 1, 1, clock);
            } else {
                wayIs("p from " + clock, x, 0, 4, 0, 0);
            }
        }
        // by more streets, if that is sooner
        BreathTown x = Check.townOf(FOUR + street("r", "a", "d", 4, OPEN) + street("s", "a", "b", 1, OPEN) + street("t", "b", "c", 1, OPEN)
            + street("u", "c", "d", 1, OPEN) + "walker w broad 9 at a to d;walker v broad 10 at a to d;");
        wayIs("three instead of four", x, 0, 3, 1, 0, 2, 1, 3, 2);
        wayIs("too broad", x, 1, NONE);
        // waiting ahead of a street that is soon is better than the slow one, not if it is too long
        x = Check.townOf(TWO + street("p", "a", "b", 1, " round 6 shift 0 wide tide/3*9;") + street("r", "a", "b", 3, OPEN)
            + "walker w broad 9 at a to b;begin 1;");
        wayIs("both in 4", x, 0, 4, 0, 3);
        x.go(5);
        wayIs("in 6 r is there in 9, p in 10", x, 0, 9, 1, 6);
    }

    private static void toldFromItsEnd() {
        Check.stands(15, "The WAY is told from its end back: the STREET with the least number by which he comes there in the HOUR of ARRIVAL");
        BreathTown x = Check.townOf(TWO + street("s", "a", "b", 2, OPEN) + street("t", "a", "b", 1, OPEN) + street("u", "a", "b", 1, OPEN)
            + "walker w broad 9 at a to b;walker v broad 9 at b to a;");
        wayIs("the least of two, not a later one", x, 0, 1, 1, 0);
        wayIs("the other way", x, 1, 1, 1, 0);
        // from a to d by b (streets 0 and 3) or by c (streets 1 and 2): from the end back 2 comes ahead of 3
        String both = street("s", "a", "b", 1, OPEN) + street("t", "a", "c", 1, OPEN);
        x = Check.townOf(FOUR + both + street("u", "c", "d", 1, OPEN) + street("v", "b", "d", 1, OPEN) + "walker w broad 9 at a to d;"
            + "walker x broad 9 at d to a;");
        wayIs("by c", x, 0, 2, 1, 0, 2, 1);
        // back from d to a the last street is 0, so by b
        wayIs("back by b", x, 1, 2, 3, 0, 0, 1);
        x = Check.townOf(FOUR + both + street("u", "b", "d", 1, OPEN) + street("v", "c", "d", 1, OPEN) + "walker w broad 9 at a to d;");
        wayIs("by b", x, 0, 2, 0, 0, 2, 1);
        // a street straight on with a greater number is none of the way
        x = Check.townOf(FOUR + both + street("u", "c", "d", 1, OPEN) + street("v", "a", "d", 2, OPEN) + "walker w broad 9 at a to d;");
        wayIs("by c, not straight on", x, 0, 2, 1, 0, 2, 1);
        x = Check.townOf(FOUR + street("v", "a", "d", 2, OPEN) + both + street("u", "c", "d", 1, OPEN) + "walker w broad 9 at a to d;");
        wayIs("straight on", x, 0, 2, 0, 0);
    }

    private static void takenAsSoonAsCanBe() {
        Check.stands(15, "taken as soon as can be from the ARRIVAL at its other end; and so on.");
        // s comes there in the same hour as t, though it is taken later
        BreathTown x = Check.townOf(TWO + street("s", "a", "b", 1, " round 1 shift 0 wide clock;") + street("t", "a", "b", 3, OPEN)
            + "walker w broad 2 at a to b;walker v broad 3 at a to b;walker u broad 1 at a to b;");
        wayIs("s in 2", x, 0, 3, 0, 2);
        wayIs("s in 3 is too late", x, 1, 3, 1, 0);
        wayIs("s in 1 is sooner", x, 2, 2, 0, 1);
        // u from c can be passed at 3 only; c is reached at 1 (by t), where he waits, not ahead of t
        x = Check.townOf(FOUR + street("s", "c", "d", 1, " round 4 shift 0 wide tide/3*9;") + street("t", "a", "c", 1, OPEN)
            + "walker w broad 9 at a to d;");
        wayIs("t at once, s with a wait", x, 0, 4, 1, 0, 0, 3);
        // the street back from d with the least number is s from b, where he arrives in 2; so on from b: v, not t and w
        x = Check.townOf(FOUR + street("s", "b", "d", 2, OPEN) + street("t", "c", "b", 1, OPEN) + street("u", "c", "d", 3, OPEN)
            + street("v", "a", "b", 2, OPEN) + street("x", "a", "c", 1, OPEN) + "walker w broad 9 at a to d;");
        wayIs("x, t, s", x, 0, 4, 4, 0, 1, 1, 0, 2);
        x = Check.townOf(FOUR + street("s", "b", "d", 2, OPEN) + street("v", "a", "b", 2, OPEN) + street("u", "c", "d", 3, OPEN)
            + street("t", "c", "b", 1, OPEN) + street("x", "a", "c", 1, OPEN) + "walker w broad 9 at a to d;");
        wayIs("v, s", x, 0, 4, 1, 0, 0, 2);
    }

    /** Nine places in a row, each street a number less than the one ahead of it on the way. */
    private static BreathTown longest() {
        StringBuilder b = new StringBuilder(EdgesOfText.many("place ", 9, ";"));
        for (int k = 0; k < 8; k++) {
            b.append(street("s" + (char) ('c' + k), "" + (char) ('j' - k), "" + (char) ('k' - k), k % 4 + 1, OPEN));
        }
        return Check.townOf(b + "walker w broad 9 at c to k;walker v broad 9 at k to d;begin 3;");
    }

    private static void wayAnswers() {
        Check.stands(15, "A WAY of a WALKER: ARRIVAL (k NONE), how many STREETS (k 20), its k-th STREET (0 .. 11), the HOUR in which that is "
            + "taken (k 100 more).");
        // the streets take 4 3 2 1 4 3 2 1 HOURS, in this order
        wayIs("by eight", longest(), 0, 23, 7, 3, 6, 7, 5, 10, 4, 12, 3, 13, 2, 17, 1, 20, 0, 22);
        wayIs("by seven", longest(), 1, 19, 0, 3, 1, 4, 2, 6, 3, 9, 4, 13, 5, 14, 6, 16);
        Check.stands(15, "NONE without a WAY, when there is none such, or for others.");
        BreathTown x = longest();
        for (int k : new int[] {-2, 8, 9, 11, 12, 19, 21, 22, 99, 108, 111, 112, 120, 200, MOST, LEAST}) {
            Check.due("way(0, " + k + ")", x.way(0, k), NONE);
        }
        for (int walker : new int[] {-1, 2, 5, 6, MOST, LEAST}) {
            for (int k : new int[] {NONE, 20, 0, 100}) {
                Check.due("way(" + walker + ", " + k + ")", x.way(walker, k), NONE);
            }
        }
    }

    private static void noWay() {
        Check.stands(15, "NONE without a WAY");
        BreathTown x = Check.townOf(FOUR + street("s", "a", "b", 1, OPEN) + street("t", "c", "d", 1, OPEN)
            + "walker w broad 9 at a to c;walker v broad 10 at a to b;walker u broad 9 at a to b;");
        for (int k : new int[] {NONE, 20, 0, 1, 100, 101}) {
            Check.due("no streets there: way(0, " + k + ")", x.way(0, k), NONE);
            Check.due("too broad: way(1, " + k + ")", x.way(1, k), NONE);
        }
        wayIs("a way", x, 2, 1, 0, 0);
        // what one walker's way was is not another one's
        Check.due("way(0, 0) behind way(2, 0)", x.way(0, 0), NONE);
    }

    private static void arrivals() {
        Check.stands(16, "ARRIVAL at a PLACE: the soonest HOUR in which he can be there (setting out: where he is).");
        BreathTown x = longest();
        int[] first = {3, 7, 10, 12, 13, 17, 20, 22, 23};
        for (int place = 0; place < 9; place++) {
            Check.due("arrival(0, " + place + ")", x.arrival(0, place), first[place]);
        }
        int[] second = {23, 19, 16, 14, 13, 9, 6, 4, 3};
        for (int place = 0; place < 9; place++) {
            Check.due("arrival(1, " + place + ")", x.arrival(1, place), second[place]);
        }
        x.go(4);
        Check.due("where he is, in 7", x.arrival(0, 0), 7);
        Check.due("send(1)", x.send(1), 23);
        Check.due("where he is, free in 23", x.arrival(1, 1), 23);
        Check.due("a street further", x.arrival(1, 0), 27);
        x.go(16);
        Check.due("where he is, in 23", x.arrival(1, 1), 23);
        x.go(1);
        Check.due("where he is, in 24", x.arrival(1, 1), 24);
    }

    private static void arrivalOfNone() {
        Check.stands(16, "ARRIVAL of a WALKER at a PLACE; NONE when he can't be there, or there are none such.");
        String town = FOUR + street("s", "a", "b", 1, OPEN) + street("t", "b", "c", 2, LATE) + "walker w broad 9 at a to d;"
            + "walker v broad 10 at a to b;";
        BreathTown x = Check.townOf(town + begin(10));
        Check.due("at b", x.arrival(0, 1), 11);
        Check.due("at c, 400 hours", x.arrival(0, 2), 410);
        Check.due("at d, without streets", x.arrival(0, 3), NONE);
        Check.due("too broad, where he is", x.arrival(1, 0), 10);
        Check.due("too broad", x.arrival(1, 1), NONE);
        x = Check.townOf(town + begin(9));
        Check.due("at c, 401 hours", x.arrival(0, 2), NONE);
        Check.due("at b", x.arrival(0, 1), 10);
        int[][] none = {{0, -1}, {0, 4}, {0, 8}, {0, 9}, {0, MOST}, {0, LEAST}, {-1, 0}, {2, 0}, {6, 0}, {MOST, 0}, {LEAST, 0}};
        for (int[] n : none) {
            Check.due("arrival(" + n[0] + ", " + n[1] + ")", x.arrival(n[0], n[1]), NONE);
        }
    }

    // ---- stuck

    private static void stuckIs(String name, BreathTown x, int walker, int hour, int street) {
        Check.due(name + ": stuck(" + walker + ", 0)", x.stuck(walker, 0), hour);
        Check.due(name + ": stuck(" + walker + ", 1)", x.stuck(walker, 1), street);
    }

    private static void stuckWithoutWaiting() {
        Check.stands(17, "III. STUCK: a WALKER sets out as for his WAY and goes on without waiting,");
        String town = "place a;place b;place c;" + street("p", "a", "b", 1, OPEN) + street("q", "b", "c", 1, " round 3 shift 0 wide tide*4;")
            + "walker w broad 4 at a to c;";
        // q is in the hour behind p: wide 0 4 8 0 4 8 ..
        stuckIs("from 0", Check.townOf(town), 0, NONE, NONE);
        stuckIs("from 1", Check.townOf(town + begin(1)), 0, NONE, NONE);
        stuckIs("from 2", Check.townOf(town + begin(2)), 0, 3, 1);
        stuckIs("from 5", Check.townOf(town + begin(5)), 0, 6, 1);
        // when he is free, if that is later: sent in 1 he is there in 3
        BreathTown x = Check.townOf(town + begin(1));
        Check.due("send(0)", x.send(0), 3);
        stuckIs("free in 3, in 1", x, 0, 3, 1);
        x.go(2);
        stuckIs("free in 3, in 3", x, 0, 3, 1);
        x.go(1);
        stuckIs("free in 3, in 4", x, 0, NONE, NONE);
        x.go(2);
        stuckIs("free in 3, in 6", x, 0, 6, 1);
    }

    private static void stuckOnTheShortest() {
        Check.stands(17, "by the way on which STREETS take the fewest HOURS together (told from its end back as above, by these):");
        String narrow = " round 1 shift 0 wide 8;";
        String three = "place a;place b;place c;";
        String w = "walker w broad 9 at a to c;";
        // straight on by r in 1 to 4 HOURS, or by p and q in 2
        for (int takes = 1; takes <= 4; takes++) {
            BreathTown x = Check.townOf(three + street("r", "a", "c", takes, narrow) + street("p", "a", "b", 1, OPEN)
                + street("q", "b", "c", 1, narrow) + w);
            stuckIs("r is the first, takes " + takes, x, 0, takes <= 2 ? 0 : 1, takes <= 2 ? 0 : 2);
            x = Check.townOf(three + street("p", "a", "b", 1, OPEN) + street("q", "b", "c", 1, narrow)
                + street("r", "a", "c", takes, narrow) + w);
            stuckIs("r is the last, takes " + takes, x, 0, takes < 2 ? 0 : 1, takes < 2 ? 2 : 1);
        }
        // of like ones from the end back, not from where he is: by c (1 and 2), though 0 is less
        BreathTown x = Check.townOf(FOUR + street("s", "a", "b", 1, narrow) + street("t", "a", "c", 1, OPEN) + street("u", "c", "d", 1, narrow)
            + street("v", "b", "d", 1, OPEN) + "walker w broad 9 at a to d;");
        stuckIs("by c", x, 0, 1, 2);
        // by HOURS alone: whether a street is ever wide plays no part, nor how late it would be
        x = Check.townOf(TWO + street("s", "a", "b", 1, " round 1 shift 0 wide 0;") + street("t", "a", "b", 2, OPEN)
            + "walker w broad 1 at a to b;");
        Check.due("his WAY", x.way(0, NONE), 2);
        stuckIs("in s", x, 0, 0, 0);
        // by the least sum, not the fewest streets
        x = Check.townOf(FOUR + street("s", "a", "b", 1, OPEN) + street("t", "b", "c", 1, OPEN) + street("u", "c", "d", 1, narrow)
            + street("v", "a", "d", 4, narrow) + "walker w broad 9 at a to d;");
        stuckIs("three hours in three", x, 0, 2, 2);
    }

    private static void stuckInTheStreet() {
        Check.stands(17, "the first HOUR in which the STREET he is in is narrower than he is (he must be in it in that HOUR).");
        // widths 9 8 7 6 5 ..
        for (int takes = 1; takes <= 4; takes++) {
            BreathTown x = Check.townOf(TWO + street("s", "a", "b", takes, " round 10 shift 0 wide 9-tide;")
                + "walker u broad 10 at a to b;walker v broad 9 at a to b;walker w broad 8 at b to a;walker x broad 7 at a to b;"
                + "walker y broad 6 at b to a;walker z broad 5 at a to b;");
            for (int walker = 0; walker < 6; walker++) {
                boolean isStuck = walker < takes;
                stuckIs("takes " + takes, x, walker, isStuck ? walker : NONE, isStuck ? 0 : NONE);
            }
        }
        // he is out of the first street when it is too narrow, and not in the second one ahead of that
        String town = "place a;place b;place c;" + street("s", "a", "b", 2, " round 9 shift 0 wide 9-tide/2*9;")
            + street("t", "b", "c", 2, " round 9 shift 0 wide tide/2*9;") + "walker w broad 9 at a to c;";
        stuckIs("just so", Check.townOf(town), 0, NONE, NONE);
        stuckIs("an hour later", Check.townOf(town + begin(1)), 0, 2, 0);
        stuckIs("two hours later", Check.townOf(town + begin(2)), 0, 2, 0);
        stuckIs("an hour ahead", Check.townOf(town + begin(8)), 0, 8, 0);
        stuckIs("nine hours later", Check.townOf(town + begin(9)), 0, NONE, NONE);
    }

    private static void stuckAnswers() {
        Check.stands(17, "STUCK: the HOUR (what 0), the STREET (1).");
        BreathTown x = Check.townOf(FOUR + street("s", "a", "b", 1, OPEN) + street("t", "b", "c", 1, " round 1 shift 0 wide 5;")
            + "walker w broad 9 at a to c;walker v broad 5 at a to c;walker u broad 1 at a to d;walker z broad 9 at a to b;begin 999;");
        stuckIs("w", x, 0, 1000, 1);
        // who goes a part of it alone is not stuck where another one was
        stuckIs("z behind w", x, 3, NONE, NONE);
        Check.stands(17, "NONE when he gets there, there is no such WAY, there is none such, or for others.");
        stuckIs("he gets there", x, 1, NONE, NONE);
        stuckIs("there is no such WAY", x, 2, NONE, NONE);
        for (int walker : new int[] {-1, 4, 6, MOST, LEAST}) {
            stuckIs("none such", x, walker, NONE, NONE);
        }
        for (int what : new int[] {-1, 2, 3, MOST, LEAST}) {
            Check.due("stuck(0, " + what + ")", x.stuck(0, what), NONE);
        }
    }

    // ---- needed

    private static void needed() {
        Check.stands(18, "NEEDED of a WALKER: STREETS without which (each alone) he has no WAY.");
        Check.stands(18, "NEEDED, as bits;");
        String w = "walker w broad 9 at a to d;";
        // a chain: all of them; another street over a part of it: this part no more
        String chain = street("s", "a", "b", 1, OPEN) + street("t", "b", "c", 1, OPEN) + street("u", "c", "d", 1, OPEN);
        Check.due("of a chain", Check.townOf(FOUR + chain + w).needed(0), 7);
        Check.due("with another from a to b", Check.townOf(FOUR + chain + street("v", "a", "b", 4, OPEN) + w).needed(0), 6);
        Check.due("with another from a to c", Check.townOf(FOUR + chain + street("v", "c", "a", 4, OPEN) + w).needed(0), 4);
        Check.due("with another from a to d", Check.townOf(FOUR + chain + street("v", "a", "d", 4, OPEN) + w).needed(0), 0);
        Check.due("with another that is too narrow", Check.townOf(FOUR + chain + street("v", "a", "d", 4, " round 1 shift 0 wide 8;")
            + w).needed(0), 7);
        Check.due("of the last one", Check.townOf(FOUR + street("v", "a", "b", 4, OPEN) + chain + w).needed(0), 12);
        // each alone: of two like ones neither is needed, though he needs one of them
        Check.due("of two like ones", Check.townOf(TWO + street("s", "a", "b", 1, OPEN) + street("t", "a", "b", 1, OPEN)
            + "walker w broad 9 at a to b;").needed(0), 0);
        // the twelfth street, as bit 11
        Check.due("of the twelfth", Check.townOf(FOUR + EdgesOfText.many("street p", 11, " from a to b takes 1" + OPEN)
            + street("s", "b", "d", 1, OPEN) + w).needed(0), 2048);
    }

    private static void neededByHours() {
        Check.stands(18, "without which (each alone) he has no WAY.");
        // without s he could be there in 409 at the soonest
        String town = TWO + street("s", "a", "b", 1, OPEN) + street("t", "a", "b", 1, LATE) + "walker w broad 9 at a to b;";
        Check.due("401 hours without it", Check.townOf(town + begin(8)).needed(0), 1);
        Check.due("400 hours without it", Check.townOf(town + begin(9)).needed(0), 0);
        // when he is free, if that is later
        BreathTown x = Check.townOf(town + begin(7));
        x.send(0);
        Check.due("free in 8", x.needed(0), 1);
        x = Check.townOf(town + begin(8));
        x.send(0);
        Check.due("free in 9", x.needed(0), 0);
        // held to an hour that is never wide together with the others: by tides
        x = Check.townOf(TWO + street("s", "a", "b", 2, " round 2 shift 0 wide tide*9;") + street("t", "a", "b", 1, OPEN)
            + "walker w broad 9 at a to b;");
        Check.due("with one that is never passed", x.needed(0), 2);
    }

    private static void neededOfNone() {
        Check.stands(18, "NONE when he has no WAY, or there is none such.");
        BreathTown x = Check.townOf(FOUR + street("s", "a", "b", 1, OPEN) + "walker w broad 9 at a to d;walker v broad 10 at a to b;"
            + "walker u broad 9 at b to a;");
        Check.due("no street to d", x.needed(0), NONE);
        Check.due("too broad", x.needed(1), NONE);
        Check.due("needed(2)", x.needed(2), 1);
        for (int walker : new int[] {-1, 3, 6, MOST, LEAST}) {
            Check.due("needed(" + walker + ")", x.needed(walker), NONE);
        }
        String late = TWO + street("t", "a", "b", 1, LATE) + "walker w broad 9 at a to b;";
        Check.due("401 hours", Check.townOf(late + begin(8)).needed(0), NONE);
        Check.due("400 hours", Check.townOf(late + begin(9)).needed(0), 1);
    }

    // ---- processions

    private static void procession() {
        Check.stands(19, "each is wide enough for him as long as it takes and n HOURS more;");
        // s is 9 wide in the tides 0 to 4 of 10
        String five = " round 10 shift 0 wide max(5-tide,0)*9;";
        BreathTown x;
        for (int takes = 1; takes <= 4; takes++) {
            x = Check.townOf(TWO + street("s", "a", "b", takes, five) + "walker w broad 9 at a to b;walker v broad 10 at a to b;");
            for (int n = 0; n <= 6; n++) {
                Check.due("takes " + takes + ", " + n + " more, of five", x.parade(0, n), takes + n <= 5 ? 0 : NONE);
                Check.due("takes " + takes + ", " + n + " more, of four", x.parade(1, n), takes + n <= 4 ? 0 : NONE);
            }
            x.go(1);
            for (int n = 0; n <= 5; n++) {
                Check.due("in 1, takes " + takes + ", " + n + " more", x.parade(0, n), takes + n <= 4 ? 1 : takes + n == 5 ? 10 : NONE);
            }
        }
        // the second street, too, from the hour in which he enters it
        String both = "place a;place b;place c;" + street("s", "a", "b", 3, OPEN) + street("t", "b", "c", 1,
            " round 24 shift 0 wide max(9-max(7-clock,0)*9-max(clock-9,0)*9,0);") + "walker w broad 9 at a to c;";
        int[][] parade = {{0, 4}, {1, 4}, {2, 4}, {3, NONE}};
        for (int[] p : parade) {
            Check.due("t in 7, 8, 9, with " + p[0] + " more", Check.townOf(both).parade(0, p[0]), p[1]);
        }
        Check.due("in 5 with 1 more", Check.townOf(both + begin(5)).parade(0, 1), 5);
        Check.due("in 5 with 2 more", Check.townOf(both + begin(5)).parade(0, 2), 28);
        Check.due("in 6 with 1 more", Check.townOf(both + begin(6)).parade(0, 1), 28);
        Check.due("in 6 with none", Check.townOf(both + begin(6)).parade(0, 0), 6);
        Check.due("in 7 with none", Check.townOf(both + begin(7)).parade(0, 0), 28);
        // and not the last street alone: s is wide in the tides 0 to 4, t always
        x = Check.townOf("place a;place b;place c;" + street("s", "a", "b", 2, five) + street("t", "b", "c", 1, OPEN)
            + "walker w broad 9 at a to c;walker v broad 9 at c to a;");
        Check.due("s first, with 3 more", x.parade(0, 3), 0);
        Check.due("s first, with 4 more", x.parade(0, 4), NONE);
        // v is in s from the second hour on: in 10 to 14, so he sets out in 9
        Check.due("s last, with 2 more", x.parade(1, 2), 0);
        Check.due("s last, with 3 more", x.parade(1, 3), 9);
        Check.due("s last, with 4 more", x.parade(1, 4), NONE);
    }

    private static void processionStreets() {
        Check.stands(19, "A PROCESSION of n HOURS behind a WALKER: by the STREETS of his WAY as now, without waiting:");
        // his WAY is by s, which is wide in tide 0 alone; t would be wide always
        BreathTown x = Check.townOf(TWO + street("s", "a", "b", 1, " round 7 shift 0 wide 9-tide*9;") + street("t", "a", "b", 4, OPEN)
            + "walker w broad 9 at a to b;");
        Check.due("by s in 0", x.parade(0, 0), 0);
        Check.due("by s, never two hours", x.parade(0, 1), NONE);
        x.go(1);
        // his WAY is by t now
        Check.due("by t in 1", x.parade(0, 48), 1);
        x.go(3);
        // in 4 s is there in 8, as t is, and has the least number
        Check.due("by s in 4", x.parade(0, 0), 7);
        // without waiting: on his WAY he waits for t, a procession sets out later
        x = Check.townOf("place a;place b;place c;" + street("s", "a", "b", 1, OPEN) + street("t", "b", "c", 2,
            " round 8 shift 0 wide max(tide-4,0)*9;") + "walker w broad 9 at a to c;");
        wayIs("with a wait", x, 0, 7, 0, 0, 1, 5);
        Check.due("parade(0, 0)", x.parade(0, 0), 4);
        Check.due("parade(0, 1)", x.parade(0, 1), 4);
        Check.due("parade(0, 2)", x.parade(0, 2), NONE);
    }

    private static void processionHours() {
        Check.stands(19, "the first HOUR from now on (400 at most) to set out.");
        // wide in the last hour of each day, and from 408 on always
        String town = TWO + street("s", "a", "b", 1, " round 1 shift 0 wide max(day-16,min(1,clock/23))*9;") + "walker w broad 9 at a to b;";
        Check.due("399 later", Check.townOf(town + begin(8)).parade(0, 1), 407);
        Check.due("400 later", Check.townOf(town + begin(7)).parade(0, 1), 407);
        Check.due("401 later", Check.townOf(town + begin(6)).parade(0, 1), NONE);
        Check.due("400 later, 48 more", Check.townOf(town + begin(7)).parade(0, 48), 407);
        Check.due("none more", Check.townOf(town + begin(6)).parade(0, 0), 23);
        Check.due("at once", Check.townOf(town + begin(23)).parade(0, 0), 23);
        // from now on, whenever he is free
        BreathTown x = Check.townOf(TWO + street("s", "a", "b", 4, OPEN) + "walker w broad 9 at a to b;begin 3;");
        x.send(0);
        Check.due("free in 7, in 3", x.parade(0, 48), 3);
    }

    private static void paradeOfNone() {
        Check.stands(19, "A PROCESSION: the HOUR; NONE when there is none, he has no WAY, n is not 0 .. 48, or there is none such.");
        BreathTown x = Check.townOf(FOUR + street("s", "a", "b", 1, OPEN) + street("t", "a", "c", 1, " round 2 shift 0 wide tide*9;")
            + "walker w broad 9 at a to b;walker v broad 9 at a to c;walker u broad 9 at a to d;walker x broad 10 at a to b;");
        int[][] parade = {{0, 0, 0}, {0, 1, 0}, {0, 47, 0}, {0, 48, 0}, {0, 49, NONE}, {0, 50, NONE}, {0, -1, NONE}, {0, MOST, NONE},
            {0, LEAST, NONE}, {1, 0, 1}, {1, 1, NONE}, {2, 0, NONE}, {3, 0, NONE}, {-1, 0, NONE}, {4, 0, NONE}, {6, 0, NONE},
            {MOST, 0, NONE}, {LEAST, 0, NONE}};
        for (int[] p : parade) {
            Check.due("parade(" + p[0] + ", " + p[1] + ")", x.parade(p[0], p[1]), p[2]);
        }
        // wide for 48 hours of which the first is taken by s itself: 47 more, not 48
        x = Check.townOf(TWO + street("s", "a", "b", 1, " round 1 shift 0 wide max(2-day,0)*9;") + "walker w broad 9 at a to b;");
        Check.due("parade(0, 47) of 48 hours", x.parade(0, 47), 0);
        Check.due("parade(0, 48) of 48 hours", x.parade(0, 48), NONE);
    }
}
