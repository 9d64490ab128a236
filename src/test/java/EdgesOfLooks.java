/** The sentences of the promises 6 to 9: has, letter, street, walker. */
final class EdgesOfLooks {
    private static final int NONE = BreathTown.NONE;
    private static final int MOST = Integer.MAX_VALUE;
    private static final int LEAST = Integer.MIN_VALUE;
    private static final String TOWN = "place az;place b;place abcdef;street s from az to b takes 1 round 5 shift 13 wide tide*9;"
        + "street yz from b to abcdef takes 4 round 48 shift 47 wide 9;walker v broad 1 at az to b;"
        + "walker w broad 99 at b to abcdef;walker x broad 9 at abcdef to b;begin 22;";

    private EdgesOfLooks() {
    }

    static void all() {
        howMany();
        dayAndClock();
        freeNow();
        rowsSeen();
        actsKept();
        hasOthers();
        letters();
        letterOfNone();
        streets();
        streetOfNone();
        walkers();
        walkerOfNone();
    }

    private static void howMany() {
        Check.stands(6, "How many there are: 0 PLACES, 1 STREETS, 2 WALKERS, 3 HOUR, 4 day, 5 clock, 6 WALKERS who are free now, "
            + "7 rows SEEN, 8 ACTS that can be undone.");
        BreathTown x = Check.townOf(TOWN);
        int[] has = {3, 2, 3, 22, 0, 22, 3, 0, 0};
        for (int what = 0; what < has.length; what++) {
            Check.due("has(" + what + ")", x.has(what), has[what]);
        }
    }

    private static void dayAndClock() {
        Check.stands(6, "II. HOURS go on from 0; day is floor(HOUR / 24), clock what is left.");
        BreathTown x = Check.townOf(TOWN);
        int[][] hours = {{23, 0, 23}, {24, 1, 0}, {25, 1, 1}, {47, 1, 23}, {48, 2, 0}, {49, 2, 1}, {240, 10, 0}};
        for (int[] h : hours) {
            x.go(h[0] - x.has(3));
            Check.due("hour " + h[0] + ": has(3)", x.has(3), h[0]);
            Check.due("hour " + h[0] + ": has(4)", x.has(4), h[1]);
            Check.due("hour " + h[0] + ": has(5)", x.has(5), h[2]);
        }
        BreathTown y = new BreathTown();
        Check.due("hour 0: has(4)", y.has(4), 0);
        Check.due("hour 0: has(5)", y.has(5), 0);
        for (int k = 0; k < 19; k++) {
            y.go(500);
        }
        y.go(499);
        Check.due("hour 9999: has(4)", y.has(4), 416);
        Check.due("hour 9999: has(5)", y.has(5), 15);
    }

    private static void freeNow() {
        Check.stands(6, "6 WALKERS who are free now");
        BreathTown x = Check.townOf(TOWN);
        // s has tide (22 + 13) modulo 5, so 0, then 1: wide enough for v from 23 on, there at 24
        Check.due("send(0)", x.send(0), 24);
        Check.due("free at 24, in 22", x.has(6), 2);
        // yz: x is there 4 hours later
        Check.due("send(2)", x.send(2), 26);
        Check.due("free at 24, 26, in 22", x.has(6), 1);
        x.go(1);
        Check.due("free at 24, 26, in 23", x.has(6), 1);
        x.go(1);
        Check.due("free at 24, 26, in 24", x.has(6), 2);
        x.go(1);
        Check.due("free at 24, 26, in 25", x.has(6), 2);
        x.go(1);
        Check.due("free at 24, 26, in 26", x.has(6), 3);
        Check.due("of nobody", new BreathTown().has(6), 0);
    }

    private static void rowsSeen() {
        Check.stands(6, "7 rows SEEN");
        BreathTown x = Check.townOf(TOWN);
        for (int rows : new int[] {1, 20, 19}) {
            Check.tape(x, new int[4 * rows]);
            x.see();
            Check.due("has(7)", x.has(7), rows);
        }
    }

    private static void actsKept() {
        Check.stands(6, "8 ACTS that can be undone.");
        BreathTown x = Check.townOf(TOWN);
        for (int k = 1; k <= 22; k++) {
            x.go(1);
            Check.due("has(8) behind " + k, x.has(8), Math.min(k, 20));
        }
        x.go(0);
        Check.due("has(8) behind a refused one", x.has(8), 20);
        for (int k = 19; k >= 0; k--) {
            x.undo();
            Check.due("has(8) with one less", x.has(8), k);
        }
        x.undo();
        Check.due("has(8) with none", x.has(8), 0);
    }

    private static void hasOthers() {
        Check.stands(6, "NONE for others.");
        BreathTown x = Check.townOf(TOWN);
        for (int what : new int[] {-1, 9, 10, MOST, LEAST}) {
            Check.due("has(" + what + ")", x.has(what), NONE);
        }
    }

    private static void letters() {
        Check.stands(7, "Letter k (0 .. 5) of the NAME of a PLACE (kind 0), a STREET (1), a WALKER (2): 1 .. 26; 0 behind it;");
        BreathTown x = Check.townOf(TOWN);
        int[][] names = {{0, 0, 1, 26, 0, 0, 0, 0}, {0, 1, 2, 0, 0, 0, 0, 0}, {0, 2, 1, 2, 3, 4, 5, 6}, {1, 0, 19, 0, 0, 0, 0, 0},
            {1, 1, 25, 26, 0, 0, 0, 0}, {2, 0, 22, 0, 0, 0, 0, 0}, {2, 1, 23, 0, 0, 0, 0, 0}, {2, 2, 24, 0, 0, 0, 0, 0}};
        for (int[] n : names) {
            for (int k = 0; k < 6; k++) {
                Check.due("letter(" + n[0] + ", " + n[1] + ", " + k + ")", x.letter(n[0], n[1], k), n[2 + k]);
            }
        }
        // six letters each, of as many as there can be
        String six = " from qaaaaa to qbbbbb takes 1 round 1 shift 0 wide 1;";
        StringBuilder b = new StringBuilder("place qaaaaa;place qbbbbb;");
        for (char c = 'a'; c < 'a' + 12; c++) {
            b.append("street zyxwv").append(c).append(six);
        }
        for (char c = 'a'; c < 'a' + 6; c++) {
            b.append("walker mnopq").append(c).append(" broad 1 at qaaaaa to qbbbbb;");
        }
        x = Check.townOf(b.toString());
        for (int k = 0; k < 6; k++) {
            Check.due("letter(1, 11, " + k + ")", x.letter(1, 11, k), k < 5 ? 26 - k : 12);
            Check.due("letter(2, 5, " + k + ")", x.letter(2, 5, k), k < 5 ? 13 + k : 6);
            Check.due("letter(2, 0, " + k + ")", x.letter(2, 0, k), k < 5 ? 13 + k : 1);
            Check.due("letter(0, 1, " + k + ")", x.letter(0, 1, k), k == 0 ? 17 : 2);
        }
    }

    private static void letterOfNone() {
        Check.stands(7, "NONE when there is none such.");
        BreathTown x = Check.townOf(TOWN);
        int[][] none = {{0, 0, -1}, {0, 0, 6}, {0, 2, 6}, {2, 0, -1}, {0, -1, 0}, {0, 3, 0}, {1, -1, 0}, {1, 2, 0}, {2, -1, 0},
            {2, 3, 0}, {-1, 0, 0}, {3, 0, 0}, {0, 12, 0}, {1, 12, 0}, {0, MOST, 0}, {LEAST, 0, 0}, {MOST, 0, 0}, {0, 0, MOST},
            {0, 0, LEAST}, {1, LEAST, 0}};
        for (int[] n : none) {
            Check.due("letter(" + n[0] + ", " + n[1] + ", " + n[2] + ")", x.letter(n[0], n[1], n[2]), NONE);
        }
    }

    private static void streets() {
        Check.stands(8, "Of a STREET: 0 from, 1 to, 2 how many HOURS it takes, 3 round, 4 shift (modulo its round), 5 TIDE now, "
            + "6 WIDTH now.");
        BreathTown x = Check.townOf(TOWN);
        // 13 modulo 5 is 3; (22 + 3) modulo 5 is 0, (22 + 47) modulo 48 is 21
        int[][] streets = {{0, 1, 1, 5, 3, 0, 0}, {1, 2, 4, 48, 47, 21, 9}};
        for (int s = 0; s < 2; s++) {
            for (int what = 0; what < 7; what++) {
                Check.due("street(" + s + ", " + what + ")", x.street(s, what), streets[s][what]);
            }
        }
        for (int k = 1; k <= 6; k++) {
            x.go(1);
            Check.due("TIDE in " + (22 + k), x.street(0, 5), k % 5);
            Check.due("WIDTH in " + (22 + k), x.street(0, 6), k % 5 * 9);
            Check.due("TIDE of yz in " + (22 + k), x.street(1, 5), 21 + k);
        }
        x.hold(0, 1);
        Check.due("shift held", x.street(0, 4), 2);
        Check.due("TIDE held", x.street(0, 5), 0);
    }

    private static void streetOfNone() {
        Check.stands(8, "NONE when there is none such, or for others.");
        BreathTown x = Check.townOf(TOWN);
        int[][] none = {{-1, 0}, {2, 0}, {11, 0}, {12, 0}, {MOST, 0}, {LEAST, 0}, {0, -1}, {0, 7}, {1, 7}, {0, MOST}, {0, LEAST}};
        for (int[] n : none) {
            Check.due("street(" + n[0] + ", " + n[1] + ")", x.street(n[0], n[1]), NONE);
        }
    }

    private static void walkers() {
        Check.stands(9, "Of a WALKER: 0 breadth, 1 where he is, 2 where he goes, 3 the HOUR in which he is free.");
        BreathTown x = Check.townOf(TOWN);
        int[][] walkers = {{1, 0, 1, 0}, {99, 1, 2, 0}, {9, 2, 1, 0}};
        for (int w = 0; w < 3; w++) {
            for (int what = 0; what < 4; what++) {
                Check.due("walker(" + w + ", " + what + ")", x.walker(w, what), walkers[w][what]);
            }
        }
        x.send(2);
        int[] sent = {9, 1, 2, 26};
        for (int what = 0; what < 4; what++) {
            Check.due("walker(2, " + what + ") sent", x.walker(2, what), sent[what]);
        }
    }

    private static void walkerOfNone() {
        Check.stands(9, "NONE when there is none such, or for others.");
        BreathTown x = Check.townOf(TOWN);
        int[][] none = {{-1, 0}, {3, 0}, {5, 0}, {6, 0}, {MOST, 0}, {LEAST, 0}, {0, -1}, {0, 4}, {2, 4}, {0, MOST}, {0, LEAST}};
        for (int[] n : none) {
            Check.due("walker(" + n[0] + ", " + n[1] + ")", x.walker(n[0], n[1]), NONE);
        }
    }
}
