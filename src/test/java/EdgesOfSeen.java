/** The sentences of the promises 28 to 30 (see, shifts, telling), and of their terms. */
final class EdgesOfSeen {
    private static final int NONE = BreathTown.NONE;
    private static final int MOST = Integer.MAX_VALUE;
    private static final int LEAST = Integer.MIN_VALUE;
    private static final String TWO = "place a;place b;";

    private EdgesOfSeen() {
    }

    static void all() {
        rowsSeen();
        seenOfNone();
        allStays();
        rowsAreRead();
        shiftsSeen();
        shiftsOfRounds();
        shiftsOfNone();
        tellingHour();
        tellingAlike();
        tellingFirst();
        tellingOfNone();
    }

    private static BreathTown street(String rest) {
        return Check.townOf(TWO + "street s from a to b takes 1 " + rest + ";");
    }

    private static int see(BreathTown x, int... bytes) {
        Check.tape(x, bytes);
        return x.see();
    }

    /** So many rows of the STREET 0, the HOUR 0, the WIDTH 3. */
    private static int[] rows(int count) {
        int[] bytes = new int[4 * count];
        for (int k = 0; k < count; k++) {
            bytes[4 * k + 3] = 3;
        }
        return bytes;
    }

    // ---- see

    private static void rowsSeen() {
        Check.stands(28, "The tape (it goes) is what is SEEN: 1 to 20 rows of four bytes, STREET, HOUR (the higher first), WIDTH (0 .. 99): "
            + "how many rows;");
        BreathTown x = street("round 4 shift 1 wide tide*3");
        Check.due("see() of none", see(x), NONE);
        for (int count : new int[] {1, 2, 19, 20}) {
            Check.due("see() of " + count, see(x, rows(count)), count);
            Check.due("has(7)", x.has(7), count);
            Check.due("the tape goes", x.feed(0, 0, 0, 0, 0), 20);
            x.end(0);
        }
        Check.due("see() of 21", see(x, rows(21)), NONE);
        Check.due("the tape goes", x.feed(0, 0, 0, 0, 0), 20);
        x.end(0);
        // what is SEEN is the latest tape alone
        Check.due("see() of 2", see(x, rows(2)), 2);
        Check.due("see() of 1", see(x, rows(1)), 1);
        Check.due("has(7)", x.has(7), 1);
        Check.due("status(1)", x.status(1), 2);
    }

    private static void seenOfNone() {
        Check.stands(28, "NONE, refused (1), all staying, when it is none such.");
        BreathTown x = Check.townOf(TWO + EdgesOfText.many("street ", 12, " from a to b takes 1 round 4 shift 0 wide 9;"));
        int refused = 0;
        int[][] right = {{0, 0, 0, 0}, {0, 0, 0, 98}, {0, 0, 0, 99}, {11, 0, 0, 9}, {0, 255, 255, 9}, {0, 39, 15, 9}, {0, 39, 16, 9}};
        for (int[] r : right) {
            Check.due("see() of " + java.util.Arrays.toString(r), see(x, r), 1);
        }
        int[][] wrong = {{0, 0, 0, 100}, {0, 0, 0, 101}, {0, 0, 0, 128}, {0, 0, 0, 255}, {12, 0, 0, 9}, {13, 0, 0, 9}, {128, 0, 0, 9},
            {255, 0, 0, 9}, {0}, {0, 0}, {0, 0, 0}, {0, 0, 0, 9, 0}, {0, 0, 0, 9, 0, 0}, {0, 0, 0, 9, 0, 0, 0}, {0, 0, 0, 9, 0, 0, 0, 100},
            {0, 0, 0, 100, 0, 0, 0, 9}, {0, 0, 0, 9, 12, 0, 0, 9}, {}};
        for (int[] w : wrong) {
            Check.due("see() of " + java.util.Arrays.toString(w), see(x, w), NONE);
            refused++;
            Check.due("status(1)", x.status(1), refused);
        }
        int[] twenty = rows(20);
        for (int length : new int[] {77, 78, 79, 81, 82, 83, 84}) {
            Check.due("see() of " + length + " bytes", see(x, java.util.Arrays.copyOf(twenty, length)), NONE);
        }
        twenty[79] = 100;
        Check.due("see() with a wrong last row", see(x, twenty), NONE);
        twenty[79] = 99;
        twenty[76] = 12;
        Check.due("see() with no such STREET in the last row", see(x, twenty), NONE);
        twenty[76] = 11;
        Check.due("see() with a right last row", see(x, twenty), 20);
        Check.due("see() without streets", see(Check.townOf(TWO), 0, 0, 0, 0), NONE);
    }

    private static void allStays() {
        Check.stands(28, "all staying, when it is none such.");
        BreathTown x = street("round 4 shift 1 wide tide*3");
        x.go(5);
        // in hour 5 s was 6 wide: its tide was 2, so that its shift is 1
        see(x, 0, 0, 5, 6);
        Check.due("see() of a wrong one", see(x, 0, 0, 5, 3, 0, 0, 5, 100), NONE);
        Check.due("the tape goes", x.feed(0, 0, 0, 0, 0), 20);
        Check.due("has(7) stays", x.has(7), 1);
        Check.due("shifts(0, NONE) stays", x.shifts(0, NONE), 1);
        Check.due("shifts(0, 0) stays", x.shifts(0, 0), 1);
        Check.due("has(3) stays", x.has(3), 5);
        Check.due("has(8) stays", x.has(8), 1);
        Check.due("fault(0) stays", x.fault(0), 0);
    }

    private static void rowsAreRead() {
        Check.stands(28, "SEEN are rows of STREET, HOUR, WIDTH.");
        // each of twenty rows counts
        BreathTown x = street("round 48 shift 7 wide tide");
        int[] bytes = new int[80];
        for (int k = 0; k < 20; k++) {
            // the hours 250, 251, .. with the tides 257 modulo 48, so 17, 18, ..
            bytes[4 * k + 1] = (250 + k) >> 8;
            bytes[4 * k + 2] = (250 + k) & 255;
            bytes[4 * k + 3] = 17 + k;
        }
        Check.due("see() of 20", see(x, bytes), 20);
        Check.due("shifts(0, NONE)", x.shifts(0, NONE), 1);
        Check.due("shifts(0, 0)", x.shifts(0, 0), 7);
        for (int k = 0; k < 20; k++) {
            bytes[4 * k + 3]++;
            see(x, bytes);
            Check.due("one row is another: shifts(0, NONE), row " + k, x.shifts(0, NONE), 0);
            bytes[4 * k + 3]--;
        }
        // the HOUR's higher byte comes first: 1 2 is 258, not 513; 258 + 7 is 25 modulo 48
        see(x, 0, 1, 2, 25);
        Check.due("shifts by hour 258", x.shifts(0, 0), 7);
        // 65535 + 7 is 22 modulo 48; 255 + 7 is 22, too; 65280 + 7 is 7
        see(x, 0, 255, 255, 22);
        Check.due("shifts by hour 65535", x.shifts(0, 0), 7);
        see(x, 0, 0, 255, 22);
        Check.due("shifts by hour 255", x.shifts(0, 0), 7);
        see(x, 0, 255, 0, 7);
        Check.due("shifts by hour 65280", x.shifts(0, 0), 7);
    }

    // ---- shifts

    private static void shiftsAre(String name, BreathTown x, int street, int... shifts) {
        Check.due(name + ": shifts(" + street + ", NONE)", x.shifts(street, NONE), shifts.length);
        for (int k = 0; k < shifts.length; k++) {
            Check.due(name + ": shifts(" + street + ", " + k + ")", x.shifts(street, k), shifts[k]);
        }
        Check.due(name + ": no more", x.shifts(street, shifts.length), NONE);
    }

    private static void shiftsSeen() {
        Check.stands(29, "SHIFTS of a STREET: 0 to less than its round, by which it was so wide whenever it was SEEN.");
        BreathTown x = Check.townOf(TWO + "street s from a to b takes 1 round 5 shift 2 wide tide;street t from a to b takes 1 round 5 shift 2 wide tide/2;"
            + "street u from a to b takes 1 round 4 shift 2 wide clock;street v from a to b takes 1 round 5 shift 3 wide tide+97;");
        // in hour 7: (7 + 1) modulo 5 is 3
        see(x, 0, 0, 7, 3);
        shiftsAre("once", x, 0, 1);
        shiftsAre("another street", x, 1, 0, 1, 2, 3, 4);
        // by the shifts 0 to 4 the tides of t in hour 7 are 2 3 4 0 1, so that it is wide 1 1 2 0 0
        see(x, 1, 0, 7, 1);
        shiftsAre("1 in hour 7", x, 1, 0, 1);
        see(x, 1, 0, 7, 0);
        shiftsAre("0 in hour 7", x, 1, 3, 4);
        see(x, 1, 0, 7, 2);
        shiftsAre("2 in hour 7", x, 1, 2);
        see(x, 1, 0, 7, 3);
        shiftsAre("3 in hour 7", x, 1);
        // whenever: in hour 8 the tides are 3 4 0 1 2, wide 1 2 0 0 1
        see(x, 1, 0, 7, 1, 1, 0, 8, 1);
        shiftsAre("1 in 7 and 8", x, 1, 0);
        see(x, 1, 0, 7, 1, 0, 0, 7, 3, 1, 0, 8, 2);
        shiftsAre("1 in 7 and 2 in 8, another between", x, 1, 1);
        shiftsAre("the other", x, 0, 1);
        see(x, 1, 0, 7, 1, 1, 0, 7, 2);
        shiftsAre("two widths in one hour", x, 1);
        // by the clock then, not now
        see(x, 2, 0, 50, 2);
        shiftsAre("by the clock", x, 2, 0, 1, 2, 3);
        see(x, 2, 0, 50, 3);
        shiftsAre("not by the clock", x, 2);
        // WIDTHS are 99 at most: 97 98 99 99 99 in hour 0
        see(x, 3, 0, 0, 99);
        shiftsAre("99", x, 3, 2, 3, 4);
        see(x, 3, 0, 0, 98);
        shiftsAre("98", x, 3, 1);
        // neither the shift that is now nor the HOUR plays a part
        see(x, 0, 0, 7, 3);
        x.hold(0, 2);
        x.go(3);
        shiftsAre("held and later", x, 0, 1);
    }

    private static void shiftsOfRounds() {
        Check.stands(29, "SHIFTS of a STREET by what is SEEN (all, if it was not): how many (k NONE), the k-th;");
        for (int round : new int[] {1, 2, 47, 48}) {
            BreathTown x = street("round " + round + " shift 0 wide 3");
            int[] all = new int[round];
            for (int k = 0; k < round; k++) {
                all[k] = k;
            }
            shiftsAre("round " + round + ", not seen", x, 0, all);
            see(x, rows(1));
            shiftsAre("round " + round + ", seen so wide", x, 0, all);
            see(x, 0, 0, 0, 2);
            shiftsAre("round " + round + ", never so wide", x, 0);
        }
        // the greatest one alone
        BreathTown x = street("round 48 shift 0 wide tide");
        see(x, 0, 0, 0, 47);
        shiftsAre("47", x, 0, 47);
        see(x, 0, 0, 0, 0);
        shiftsAre("0", x, 0, 0);
        see(x, 0, 0, 0, 48);
        shiftsAre("48 there is not", x, 0);
        // all again with another town
        Check.town(x, TWO + "street s from a to b takes 1 round 2 shift 0 wide tide;");
        shiftsAre("another town", x, 0, 0, 1);
    }

    private static void shiftsOfNone() {
        Check.stands(29, "NONE when there is none such.");
        BreathTown x = street("round 4 shift 1 wide tide*3");
        int[][] none = {{0, 4}, {0, 5}, {0, 47}, {0, 48}, {0, -2}, {0, MOST}, {0, LEAST}, {1, NONE}, {1, 0}, {-1, NONE}, {-1, 0}, {11, NONE},
            {12, NONE}, {MOST, NONE}, {LEAST, NONE}};
        for (int[] n : none) {
            Check.due("shifts(" + n[0] + ", " + n[1] + ")", x.shifts(n[0], n[1]), NONE);
        }
        see(x, 0, 0, 0, 98);
        Check.due("shifts(0, NONE) without", x.shifts(0, NONE), 0);
        Check.due("shifts(0, 0) without", x.shifts(0, 0), NONE);
        Check.due("shifts(0, NONE) of nothing", new BreathTown().shifts(0, NONE), NONE);
    }

    // ---- telling

    private static void tellingIs(String name, BreathTown x, int street, int hour, int alike) {
        Check.due(name + ": telling(" + street + ", 0)", x.telling(street, 0), hour);
        Check.due(name + ": telling(" + street + ", 1)", x.telling(street, 1), alike);
    }

    private static void tellingHour() {
        Check.stands(30, "TELLING: the HOUR from now on (as many as its round) in which the most SHIFTS that look alike then are fewest;");
        // three shifts: in the clock's hours 0 and 1 all three look alike, in 2 two, in 3 and 4 none
        String sum = "round 3 shift 0 wide tide/2*(clock/2)+tide*(clock/3)";
        tellingIs("of 0 1 2", street(sum), 0, 2, 2);
        BreathTown x = street(sum);
        x.go(1);
        tellingIs("of 1 2 3", x, 0, 3, 1);
        x.go(1);
        tellingIs("of 2 3 4", x, 0, 3, 1);
        x.go(1);
        tellingIs("of 3 4 5", x, 0, 3, 1);
        x.go(18);
        // from 21 to 23, then 24, 25, 26 as 0, 1, 2
        tellingIs("of 21 22 23", x, 0, 21, 1);
        x.go(3);
        tellingIs("of 24 25 26", x, 0, 26, 2);
        // as many as its round: of 48 the last one; the 49th would tell more
        String late = "round 48 shift 0 wide tide*(day/2)";
        x = street(late);
        tellingIs("of 0 to 47", x, 0, 0, 48);
        x.go(1);
        tellingIs("of 1 to 48", x, 0, 48, 1);
        // a round of 1 has one HOUR and one SHIFT
        x = street("round 1 shift 0 wide clock");
        x.go(7);
        tellingIs("of 7", x, 0, 7, 1);
        // of 2: in 5 both look alike, in 6 not; in 4 and 5 both
        x = street("round 2 shift 0 wide tide*(clock/6)");
        x.go(4);
        tellingIs("of 4 5", x, 0, 4, 2);
        x.go(1);
        tellingIs("of 5 6", x, 0, 6, 1);
    }

    private static void tellingAlike() {
        Check.stands(30, "in which the most SHIFTS that look alike then are fewest;");
        Check.stands(30, "TELLING of a STREET: the HOUR (what 0), how many SHIFTS look alike then at the most (1).");
        tellingIs("all alike", street("round 48 shift 0 wide 9"), 0, 0, 48);
        tellingIs("all unlike", street("round 48 shift 0 wide tide"), 0, 0, 1);
        tellingIs("two by two", street("round 48 shift 0 wide tide/2"), 0, 0, 2);
        // WIDTHS are 0 .. 99: 98 99 99 99 99, and 0 0 0 1 2
        tellingIs("99 at most", street("round 5 shift 0 wide tide+98"), 0, 0, 4);
        tellingIs("0 at least", street("round 5 shift 0 wide tide-2"), 0, 0, 3);
        tellingIs("99 all", street("round 48 shift 0 wide tide+99"), 0, 0, 48);
        // the most that look alike: 3 3 is better than 1 1 4
        // six shifts; at even clocks tide/3 (3 and 3), at odd ones min(tide,2) (1 1 4)
        String sum = "round 6 shift 0 wide tide/3*(1-clock+clock/2*2)+min(tide,2)*(clock-clock/2*2)";
        BreathTown x = street(sum);
        tellingIs("3 3 and 1 1 4", x, 0, 0, 3);
        x.go(1);
        tellingIs("1 1 4 and 3 3", x, 0, 2, 3);
        // of the SHIFTS that are left alone: seen 0 in hour 0 are those with tides 0 to 2, so the shifts 0 1 2
        see(x, 0, 0, 0, 0);
        // in 1 their tides are 1 2 3: 1 2 2; in 2 they are 2 3 4: 0 1 1; in 3 they are 3 4 5: 2 2 2; in 5: 5 0 1: 2 0 1
        tellingIs("of three shifts", x, 0, 5, 1);
        // seen 1 in hour 0 are 3 4 5: in 1 their tides are 4 5 0: 2 2 0; in 2 they are 5 0 1: 1 0 0; in 3 they are 0 1 2
        see(x, 0, 0, 0, 1);
        tellingIs("of three other shifts", x, 0, 3, 1);
    }

    private static void tellingFirst() {
        Check.stands(30, "the first such.");
        // in each hour two of four look alike
        BreathTown x = street("round 4 shift 0 wide min(tide,2)");
        tellingIs("in 0", x, 0, 0, 2);
        x.go(9);
        tellingIs("in 9", x, 0, 9, 2);
        // at the clocks 3 and 5 they are unlike
        x = street("round 8 shift 0 wide tide*(max(1-max(clock-3,3-clock),0)+max(1-max(clock-5,5-clock),0))");
        tellingIs("of 0 to 7", x, 0, 3, 1);
        x.go(3);
        tellingIs("of 3 to 10", x, 0, 3, 1);
        x.go(1);
        tellingIs("of 4 to 11", x, 0, 5, 1);
        x.go(2);
        tellingIs("of 6 to 13", x, 0, 6, 8);
    }

    private static void tellingOfNone() {
        Check.stands(30, "NONE without SHIFTS, when there is none such, or for others.");
        BreathTown x = street("round 4 shift 1 wide tide*3");
        tellingIs("of four", x, 0, 0, 1);
        int[][] none = {{0, -1}, {0, 2}, {0, MOST}, {0, LEAST}, {1, 0}, {-1, 0}, {11, 0}, {12, 0}, {MOST, 0}, {LEAST, 0}};
        for (int[] n : none) {
            Check.due("telling(" + n[0] + ", " + n[1] + ")", x.telling(n[0], n[1]), NONE);
        }
        see(x, 0, 0, 0, 3);
        tellingIs("of one", x, 0, 0, 1);
        see(x, 0, 0, 0, 4);
        tellingIs("without SHIFTS", x, 0, NONE, NONE);
        tellingIs("of nothing", new BreathTown(), 0, NONE, NONE);
    }
}
