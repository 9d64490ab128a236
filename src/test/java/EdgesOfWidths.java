/** The sentences of the promises 10 to 14 (width, passes, next, often, wide), and of tides, widths, passing. */
final class EdgesOfWidths {
    private static final int NONE = BreathTown.NONE;
    private static final int MOST = Integer.MAX_VALUE;
    private static final int LEAST = Integer.MIN_VALUE;
    private static final String TWO = "place a;place b;";
    /** Wide from hour 408 on, which is the beginning of day 17; never ahead of it. */
    private static final String LATE = " round 1 shift 0 wide max(day-16,0)*9;";

    private EdgesOfWidths() {
    }

    static void all() {
        tides();
        toldShifts();
        widths();
        width();
        widthOfNone();
        passing();
        passes();
        passesOfNone();
        next();
        nextOfNone();
        often();
        oftenOfNone();
        wide();
        wideOfNone();
    }

    private static BreathTown one(String street) {
        return Check.townOf(TWO + "street s from a to b " + street + ";");
    }

    private static void tides() {
        Check.stands(8, "TIDE of a STREET in an HOUR: (HOUR and its shift) modulo its round.");
        // round and shift, and the tides from hour 0 on
        int[][] tides = {{1, 0, 0, 0, 0}, {1, 47, 0, 0, 0}, {2, 0, 0, 1, 0}, {5, 3, 3, 4, 0, 1}, {5, 4, 4, 0, 1}, {5, 0, 0, 1, 2, 3, 4, 0},
            {48, 47, 47, 0, 1}, {48, 46, 46, 47, 0}, {47, 46, 46, 0}};
        for (int[] t : tides) {
            BreathTown x = one("takes 1 round " + t[0] + " shift " + t[1] + " wide tide");
            for (int hour = 0; hour < t.length - 2; hour++) {
                Check.due("TIDE of round " + t[0] + ", shift " + t[1] + " in " + hour, x.street(0, 5), t[2 + hour]);
                Check.due("WIDTH of round " + t[0] + ", shift " + t[1] + " in " + hour, x.width(0, hour), t[2 + hour]);
                x.go(1);
            }
        }
        // 99999 is 2083 times 48 and 15 more
        Check.due("TIDE in 99999", one("takes 1 round 48 shift 0 wide tide").width(0, 99999), 15);
        Check.due("TIDE in 99999 by 33", one("takes 1 round 48 shift 33 wide tide").width(0, 99999), 0);
        Check.due("TIDE in 99999 by 32", one("takes 1 round 48 shift 32 wide tide").width(0, 99999), 47);
    }

    private static void toldShifts() {
        Check.stands(8, "(A shift that is told counts modulo its round.)");
        int[][] shifts = {{47, 46, 46}, {47, 47, 0}, {46, 47, 1}, {48, 47, 47}, {1, 0, 0}, {1, 1, 0}, {1, 47, 0}, {2, 47, 1},
            {10, 9, 9}, {10, 10, 0}, {10, 11, 1}, {10, 30, 0}};
        for (int[] s : shifts) {
            BreathTown x = one("takes 1 round " + s[0] + " shift " + s[1] + " wide tide");
            Check.due("the shift " + s[1] + " of a round " + s[0], x.street(0, 4), s[2]);
        }
    }

    private static void widthIs(String sum, int hour, int want) {
        Check.due("WIDTH by " + sum + " in " + hour, one("takes 1 round 5 shift 0 wide " + sum).width(0, hour), want);
    }

    private static void widths() {
        Check.stands(10, "WIDTH of it then: its SUM by that tide, its round, clock, day; 0 .. 99 (below is 0, above 99).");
        widthIs("tide", 4, 4);
        widthIs("tide", 5, 0);
        widthIs("round", 4, 5);
        widthIs("clock", 23, 23);
        widthIs("clock", 24, 0);
        widthIs("clock", 25, 1);
        widthIs("day", 23, 0);
        widthIs("day", 24, 1);
        widthIs("day", 47, 1);
        widthIs("day", 48, 2);
        widthIs("clock+24*day-9990", 9999, 9);
        widthIs("0-2", 0, 0);
        widthIs("0-1", 0, 0);
        widthIs("0", 0, 0);
        widthIs("1", 0, 1);
        widthIs("98", 0, 98);
        widthIs("99", 0, 99);
        widthIs("100", 0, 99);
        widthIs("101", 0, 99);
        widthIs("tide+97", 1, 98);
        widthIs("tide+97", 2, 99);
        widthIs("tide+97", 3, 99);
        widthIs("tide-2", 1, 0);
        widthIs("tide-2", 2, 0);
        widthIs("tide-2", 3, 1);
        widthIs("9999*9999", 0, 99);
        widthIs("0-9999*9999", 0, 0);
        // the SUM as a whole, not its parts
        widthIs("9000-8990", 0, 10);
        widthIs("(0-50)+60", 0, 10);
    }

    private static void width() {
        Check.stands(10, "WIDTH of a STREET in an HOUR (0 .. 99999);");
        BreathTown x = Check.townOf(TWO + "street s from a to b takes 1 round 48 shift 0 wide tide+1;"
            + "street t from a to b takes 1 round 1 shift 0 wide clock;street u from a to b takes 1 round 1 shift 0 wide day/50;begin 77;");
        Check.due("width(0, 0)", x.width(0, 0), 1);
        Check.due("width(0, 1)", x.width(0, 1), 2);
        Check.due("width(0, 47)", x.width(0, 47), 48);
        Check.due("width(0, 48)", x.width(0, 48), 1);
        Check.due("width(0, 99998)", x.width(0, 99998), 15);
        Check.due("width(0, 99999)", x.width(0, 99999), 16);
        Check.due("width(1, 99999)", x.width(1, 99999), 15);
        // 99999 is in day 4166
        Check.due("width(2, 99999)", x.width(2, 99999), 83);
        // by the shift that is now, whichever the HOUR is
        x.hold(0, 1);
        Check.due("width(0, 0) held", x.width(0, 0), 48);
        Check.due("width(0, 1) held", x.width(0, 1), 1);
        x.go(5);
        Check.due("width(0, 1) later", x.width(0, 1), 1);
        x.undo();
        x.undo();
        Check.due("width(0, 0) undone", x.width(0, 0), 1);
        // hours far apart, one behind the other
        for (int hour : new int[] {0, 480, 512, 960, 1024, 4800, 48000, 51200, 96000}) {
            Check.due("width(0, " + hour + ")", x.width(0, hour), hour % 48 + 1);
        }
        Check.town(x, TWO + "street s from a to b takes 1 round 48 shift 0 wide tide+2;");
        Check.due("width(0, 0) of another town", x.width(0, 0), 2);
        // of one town by one shift, of the next one by another
        for (int shift = 0; shift < 48; shift++) {
            x = one("takes 1 round 48 shift 47 wide tide");
            Check.due("width(0, 0) of shift 47", x.width(0, 0), 47);
            Check.town(x, TWO + "street s from a to b takes 1 round 48 shift " + shift + " wide tide/2;");
            Check.due("width(0, 0) of another town, shift " + shift, x.width(0, 0), shift / 2);
        }
    }

    private static void widthOfNone() {
        Check.stands(10, "NONE when there are none such.");
        BreathTown x = one("takes 1 round 48 shift 0 wide tide");
        int[][] none = {{0, -1}, {0, 100000}, {0, MOST}, {0, LEAST}, {-1, 0}, {1, 0}, {11, 0}, {12, 0}, {MOST, 0}, {LEAST, 0}};
        for (int[] n : none) {
            Check.due("width(" + n[0] + ", " + n[1] + ")", x.width(n[0], n[1]), NONE);
        }
        Check.due("width of a town without streets", Check.townOf(TWO).width(0, 0), NONE);
    }

    private static void passing() {
        Check.stands(11, "One of a breadth PASSES a STREET from an HOUR on, either way, if in that HOUR and those behind it, as many "
            + "together as it takes, its WIDTH is not below the breadth;");
        // widths 0 1 2 3 4 5 0 1 ..; for each number of hours: breadth, hour, whether
        int[][][] passes = {{{5, 5, 1}, {6, 5, 0}, {4, 5, 1}, {5, 4, 0}, {1, 0, 0}, {1, 1, 1}, {1, 6, 0}},
            {{4, 4, 1}, {5, 4, 0}, {3, 4, 1}, {3, 3, 1}, {4, 3, 0}, {1, 5, 0}, {1, 0, 0}},
            {{3, 3, 1}, {4, 3, 0}, {2, 2, 1}, {3, 2, 0}, {1, 4, 0}, {1, 3, 1}},
            {{2, 2, 1}, {3, 2, 0}, {1, 1, 1}, {2, 1, 0}, {1, 3, 0}, {1, 2, 1}, {1, 0, 0}}};
        for (int takes = 1; takes <= 4; takes++) {
            BreathTown x = one("takes " + takes + " round 6 shift 0 wide tide");
            for (int[] p : passes[takes - 1]) {
                Check.due("passes with " + takes + ", (0, " + p[0] + ", " + p[1] + ")", x.passes(0, p[0], p[1]), p[2]);
            }
        }
        // narrow in the middle alone: widths 9 9 0 9 9 0
        BreathTown x = one("takes 3 round 3 shift 0 wide 9-tide/2*9");
        for (int hour = 0; hour < 3; hour++) {
            Check.due("narrow in one of three, from " + hour, x.passes(0, 1, hour), 0);
        }
        // either way
        x = Check.townOf(TWO + "street s from a to b takes 2 round 6 shift 4 wide tide;walker v broad 4 at a to b;"
            + "walker w broad 4 at b to a;");
        Check.due("there", x.way(0, NONE), 2);
        Check.due("and back", x.way(1, NONE), 2);
        Check.stands(15, "then he is at its other end, so many HOURS later.");
        for (int takes = 1; takes <= 4; takes++) {
            x = Check.townOf(TWO + "street s from a to b takes " + takes + " round 1 shift 0 wide 9;walker v broad 9 at a to b;begin 7;");
            Check.due("arrival with " + takes, x.arrival(0, 1), 7 + takes);
            Check.due("sent with " + takes, x.send(0), 7 + takes);
        }
    }

    private static void passes() {
        Check.stands(11, "Whether one of a breadth (1 .. 99) PASSES a STREET from an HOUR (0 .. 99999) on: 1, 0;");
        BreathTown x = Check.townOf(TWO + "street s from a to b takes 1 round 2 shift 0 wide 98+tide;"
            + "street t from a to b takes 4 round 48 shift 29 wide tide;street u from a to b takes 4 round 48 shift 30 wide tide;");
        Check.due("passes(0, 1, 0)", x.passes(0, 1, 0), 1);
        Check.due("passes(0, 98, 0)", x.passes(0, 98, 0), 1);
        Check.due("passes(0, 99, 0)", x.passes(0, 99, 0), 0);
        Check.due("passes(0, 99, 1)", x.passes(0, 99, 1), 1);
        Check.due("passes(0, 99, 99998)", x.passes(0, 99, 99998), 0);
        Check.due("passes(0, 99, 99999)", x.passes(0, 99, 99999), 1);
        // in 99999 t has tide 44, so 44 45 46 47; u has 45 46 47 0
        Check.due("passes(1, 44, 99999)", x.passes(1, 44, 99999), 1);
        Check.due("passes(1, 45, 99999)", x.passes(1, 45, 99999), 0);
        Check.due("passes(2, 1, 99999)", x.passes(2, 1, 99999), 0);
        Check.due("passes(2, 44, 99998)", x.passes(2, 44, 99998), 1);
    }

    private static void passesOfNone() {
        Check.stands(11, "NONE when there are none such.");
        BreathTown x = one("takes 1 round 1 shift 0 wide 99");
        int[][] none = {{0, 0, 0}, {0, 100, 0}, {0, -1, 0}, {0, MOST, 0}, {0, LEAST, 0}, {0, 1, -1}, {0, 1, 100000}, {0, 1, MOST},
            {0, 1, LEAST}, {-1, 1, 0}, {1, 1, 0}, {12, 1, 0}, {MOST, 1, 0}, {LEAST, 1, 0}};
        for (int[] n : none) {
            Check.due("passes(" + n[0] + ", " + n[1] + ", " + n[2] + ")", x.passes(n[0], n[1], n[2]), NONE);
        }
    }

    private static void next() {
        Check.stands(12, "The first HOUR from one (0 .. 99999) on, 400 later at most, from which one of a breadth PASSES a STREET;");
        BreathTown x = Check.townOf(TWO + "street s from a to b takes 2 round 6 shift 0 wide tide;street t from a to b takes 1" + LATE
            + "street u from a to b takes 4" + LATE + "street v from a to b takes 1 round 1 shift 0 wide max(day-4182,0)*9;"
            + "street w from a to b takes 1 round 48 shift 0 wide tide*2+5;begin 50;");
        // s is wide for 3 from tides 3 and 4 on; the HOUR now plays no part
        int[][] next = {{0, 3, 0, 3}, {0, 3, 2, 3}, {0, 3, 3, 3}, {0, 3, 4, 4}, {0, 3, 5, 9}, {0, 4, 4, 4}, {0, 4, 5, 10}, {0, 5, 0, NONE},
            {1, 9, 7, NONE}, {1, 9, 8, 408}, {1, 9, 9, 408}, {1, 9, 407, 408}, {1, 9, 408, 408}, {1, 9, 409, 409}, {1, 10, 408, 432},
            {2, 9, 7, NONE}, {2, 9, 8, 408}, {2, 9, 408, 408}, {2, 9, 404, 408},
            // v is wide from day 4183 on, which begins with hour 100392
            {3, 9, 99991, NONE}, {3, 9, 99992, 100392}, {3, 9, 99999, 100392},
            {4, 99, 0, 47}, {4, 99, 99999, 100031}, {4, 5, 99999, 99999}, {4, 1, 0, 0}};
        for (int[] n : next) {
            Check.due("next(" + n[0] + ", " + n[1] + ", " + n[2] + ")", x.next(n[0], n[1], n[2]), n[3]);
        }
    }

    private static void nextOfNone() {
        Check.stands(12, "NONE when there is none, or something can't be.");
        BreathTown x = one("takes 2 round 2 shift 0 wide tide*9");
        Check.due("next where two hours together are never wide", x.next(0, 1, 0), NONE);
        x = one("takes 1 round 1 shift 0 wide 99");
        Check.due("next(0, 1, 0)", x.next(0, 1, 0), 0);
        Check.due("next(0, 99, 99999)", x.next(0, 99, 99999), 99999);
        int[][] none = {{0, 0, 0}, {0, 100, 0}, {0, -1, 0}, {0, MOST, 0}, {0, LEAST, 0}, {0, 1, -1}, {0, 1, 100000}, {0, 1, MOST},
            {0, 1, LEAST}, {-1, 1, 0}, {1, 1, 0}, {12, 1, 0}, {MOST, 1, 0}, {LEAST, 1, 0}};
        for (int[] n : none) {
            Check.due("next(" + n[0] + ", " + n[1] + ", " + n[2] + ")", x.next(n[0], n[1], n[2]), NONE);
        }
    }

    private static void often() {
        Check.stands(13, "From how many of n HOURS (1 .. 1000) from one (0 .. 99999) on one of a breadth PASSES a STREET;");
        BreathTown x = Check.townOf(TWO + "street s from a to b takes 1 round 6 shift 0 wide tide;"
            + "street t from a to b takes 3 round 6 shift 0 wide tide;street u from a to b takes 1 round 1 shift 0 wide 9;"
            + "street v from a to b takes 1 round 1 shift 0 wide clock;street w from a to b takes 4" + LATE);
        int[][] often = {{0, 5, 0, 5, 0}, {0, 5, 0, 6, 1}, {0, 5, 0, 11, 1}, {0, 5, 0, 12, 2}, {0, 5, 5, 1, 1}, {0, 5, 6, 1, 0}, {0, 5, 5, 6, 1},
            {0, 5, 5, 7, 2}, {0, 6, 0, 1000, 0}, {0, 1, 0, 6, 5},
            // t from tide 3 on for 3, from 1, 2, 3 for 1; the last of the hours counts by those behind it
            {1, 3, 0, 3, 0}, {1, 3, 0, 4, 1}, {1, 3, 3, 1, 1}, {1, 3, 4, 1, 0}, {1, 1, 0, 6, 3}, {1, 1, 1, 3, 3}, {1, 1, 0, 2, 1},
            {2, 9, 0, 1, 1}, {2, 9, 0, 2, 2}, {2, 9, 0, 999, 999}, {2, 9, 0, 1000, 1000}, {2, 10, 0, 1000, 0}, {2, 1, 99999, 1, 1},
            {2, 1, 99999, 1000, 1000}, {2, 99, 5, 5, 0},
            // in either run of 1000 hours the clock is 0 in 42
            {3, 1, 0, 1000, 958}, {3, 1, 99999, 1000, 958}, {3, 23, 23, 1, 1}, {3, 23, 22, 1, 0},
            {4, 9, 404, 4, 0}, {4, 9, 405, 4, 1}, {4, 9, 408, 4, 4}};
        for (int[] o : often) {
            Check.due("often(" + o[0] + ", " + o[1] + ", " + o[2] + ", " + o[3] + ")", x.often(o[0], o[1], o[2], o[3]), o[4]);
        }
    }

    private static void oftenOfNone() {
        Check.stands(13, "NONE when something can't be.");
        BreathTown x = one("takes 1 round 1 shift 0 wide 99");
        Check.due("often(0, 1, 0, 1)", x.often(0, 1, 0, 1), 1);
        Check.due("often(0, 99, 99999, 1000)", x.often(0, 99, 99999, 1000), 1000);
        int[][] none = {{0, 1, 0, 0}, {0, 1, 0, 1001}, {0, 1, 0, -1}, {0, 1, 0, MOST}, {0, 1, 0, LEAST}, {0, 0, 0, 1}, {0, 100, 0, 1},
            {0, MOST, 0, 1}, {0, LEAST, 0, 1}, {0, 1, -1, 1}, {0, 1, 100000, 1}, {0, 1, MOST, 1}, {0, 1, LEAST, 1}, {-1, 1, 0, 1},
            {1, 1, 0, 1}, {12, 1, 0, 1}, {MOST, 1, 0, 1}, {LEAST, 1, 0, 1}};
        for (int[] n : none) {
            Check.due("often(" + n[0] + ", " + n[1] + ", " + n[2] + ", " + n[3] + ")", x.often(n[0], n[1], n[2], n[3]), NONE);
        }
    }

    private static void wide() {
        Check.stands(14, "WIDE AT ONCE: the first HOUR from now on (400 at most) in which all of some STREETS are so wide.");
        Check.stands(14, "WIDE AT ONCE: STREETS as bits, so wide (1 .. 99);");
        BreathTown x = Check.townOf(TWO + "street s from a to b takes 4 round 6 shift 0 wide tide;"
            + "street t from a to b takes 1 round 4 shift 0 wide tide;street u from a to b takes 1" + LATE
            + "street v from a to b takes 1 round 2 shift 0 wide 98+tide;begin 5;");
        // hour: s t  5: 5 1  6: 0 2  7: 1 3  8: 2 0  9: 3 1  10: 4 2  11: 5 3  12: 0 0  13: 1 1
        int[][] wide = {{1, 1, 5}, {1, 5, 5}, {1, 6, NONE}, {2, 1, 5}, {2, 2, 6}, {2, 3, 7}, {2, 4, NONE}, {3, 1, 5}, {3, 2, 10}, {3, 3, 11},
            {3, 4, NONE}, {4, 1, NONE}, {5, 1, NONE}, {8, 98, 5}, {8, 99, 5}, {9, 4, 5}, {9, 1, 5}, {10, 2, 6}, {11, 3, 11}, {15, 1, NONE}};
        for (int[] w : wide) {
            Check.due("wide(" + w[0] + ", " + w[1] + ") from 5", x.wide(w[0], w[1]), w[2]);
        }
        x.go(2);
        Check.due("wide(4, 9) from 7, 401 later", x.wide(4, 9), NONE);
        Check.due("wide(3, 3) from 7", x.wide(3, 3), 11);
        x.go(1);
        Check.due("wide(4, 9) from 8, 400 later", x.wide(4, 9), 408);
        Check.due("wide(4, 10) from 8", x.wide(4, 10), NONE);
        Check.due("wide(12, 9) from 8", x.wide(12, 9), 408);
        // in 408 s has tide 0, in 409 it is more than 400 later
        Check.due("wide(5, 1) from 8", x.wide(5, 1), NONE);
        x.go(1);
        Check.due("wide(5, 1) from 9", x.wide(5, 1), 409);
        x.go(399);
        Check.due("wide(4, 9) from 408", x.wide(4, 9), 408);
        x.go(4);
        Check.due("wide(3, 3) from 412", x.wide(3, 3), 419);
        // all twelve
        String twelve = TWO + EdgesOfText.many("street ", 11, " from a to b takes 1 round 1 shift 0 wide 9;")
            + "street z from a to b takes 1 round 5 shift 0 wide tide*2;";
        x = Check.townOf(twelve);
        Check.due("wide(4095, 8)", x.wide(4095, 8), 4);
        Check.due("wide(2047, 8)", x.wide(2047, 8), 0);
        Check.due("wide(2048, 8)", x.wide(2048, 8), 4);
        Check.due("wide(2049, 6)", x.wide(2049, 6), 3);
    }

    private static void wideOfNone() {
        Check.stands(14, "NONE when there is no such HOUR, or something can't be (no STREETS, too).");
        BreathTown x = Check.townOf(TWO + "street s from a to b takes 4 round 1 shift 0 wide 99;"
            + "street t from a to b takes 1 round 1 shift 0 wide 99;");
        Check.due("wide(3, 99)", x.wide(3, 99), 0);
        int[][] none = {{0, 1}, {4, 1}, {5, 1}, {7, 1}, {-1, 1}, {MOST, 1}, {LEAST, 1}, {LEAST + 1, 1}, {1, 0}, {1, 100}, {1, -1}, {1, MOST},
            {1, LEAST}, {4096, 1}, {1 << 30, 1}};
        for (int[] n : none) {
            Check.due("wide(" + n[0] + ", " + n[1] + ")", x.wide(n[0], n[1]), NONE);
        }
        Check.due("wide(4096, 1) of twelve", Check.townOf(TWO + EdgesOfText.many("street ", 12,
            " from a to b takes 1 round 1 shift 0 wide 9;")).wide(4096, 1), NONE);
        Check.due("wide(1, 1) without streets", Check.townOf(TWO).wide(1, 1), NONE);
        Check.due("wide(0, 1) without streets", Check.townOf(TWO).wide(0, 1), NONE);
    }
}
