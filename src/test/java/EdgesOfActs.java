/** The sentences of the promises 22 to 27 (go, send, hold, days, undo, seed), and of their terms. */
final class EdgesOfActs {
    private static final int NONE = BreathTown.NONE;
    private static final int MOST = Integer.MAX_VALUE;
    private static final int LEAST = Integer.MIN_VALUE;
    private static final String TWO = "place a;place b;";
    private static final String OPEN = " round 1 shift 0 wide 9;";

    private EdgesOfActs() {
    }

    static void all() {
        hoursGoBy();
        goOfNone();
        refusedAct();
        sent();
        sentBehind9999();
        sendOfNone();
        held();
        holdOfNone();
        daysGoBy();
        shiftsDrawn();
        withoutStreets();
        daysOfNone();
        lastTwenty();
        undone();
        allUndone();
        seeds();
        draws();
    }

    private static BreathTown street(String rest) {
        return Check.townOf(TWO + "street s from a to b " + rest + ";");
    }

    /** A town in an HOUR from 999 on; its streets' shifts are what the days have made of them. */
    private static BreathTown late(String town, int hour) {
        BreathTown x = Check.townOf(town + "begin 999;");
        while (hour - x.has(3) >= 720) {
            x.days(30);
        }
        while (x.has(3) < hour) {
            x.go(Math.min(500, hour - x.has(3)));
        }
        return x;
    }

    private static void hoursGoBy() {
        Check.stands(22, "ACTS: HOURS go by (9999 at most);");
        Check.stands(22, "n HOURS (1 .. 500) go by: the HOUR then;");
        BreathTown x = new BreathTown();
        Check.due("go(1)", x.go(1), 1);
        Check.due("go(2)", x.go(2), 3);
        Check.due("go(499)", x.go(499), 502);
        Check.due("go(500)", x.go(500), 1002);
        Check.due("has(3)", x.has(3), 1002);
        x = late("", 9997);
        Check.due("go(1) in 9997", x.go(1), 9998);
        Check.due("go(1) in 9998", x.go(1), 9999);
        Check.due("go(1) in 9999", x.go(1), NONE);
        x = late("", 9500);
        Check.due("go(500) in 9500", x.go(500), NONE);
        Check.due("go(499) in 9500", x.go(499), 9999);
        x = late("", 9499);
        Check.due("go(500) in 9499", x.go(500), 9999);
    }

    private static void goOfNone() {
        Check.stands(22, "NONE, refused (2), when it can't be.");
        BreathTown x = new BreathTown();
        int[] none = {0, -1, 501, 502, MOST, LEAST};
        for (int k = 0; k < none.length; k++) {
            Check.due("go(" + none[k] + ")", x.go(none[k]), NONE);
            Check.due("status(2)", x.status(2), k + 1);
        }
        Check.due("has(3) stays", x.has(3), 0);
        Check.due("has(8) stays", x.has(8), 0);
        x = late("", 9999);
        Check.due("go(1) in 9999", x.go(1), NONE);
        Check.due("status(2)", x.status(2), 1);
        Check.due("has(3) stays", x.has(3), 9999);
    }

    private static void refusedAct() {
        Check.stands(22, "refused (2), when it can't be.");
        String town = TWO + "street s from a to b takes 1" + OPEN + "walker w broad 10 at a to b;";
        BreathTown x = Check.townOf(town);
        for (int k = 0; k < 20; k++) {
            x.go(1);
        }
        x.go(0);
        x.send(0);
        x.hold(0, 0);
        x.days(0);
        Check.due("status(2)", x.status(2), 4);
        Check.due("has(3)", x.has(3), 20);
        // none of the twenty ACTS has made room for one that was refused
        for (int k = 19; k >= 0; k--) {
            Check.due("undo()", x.undo(), true);
            Check.due("has(3)", x.has(3), k);
        }
    }

    private static void sent() {
        Check.stands(23, "a WALKER is SENT: by his WAY at once he is where he goes, free in the HOUR of his ARRIVAL, and then goes to where he was;");
        BreathTown x = Check.townOf(TWO + "place c;street s from a to b takes 2 round 6 shift 0 wide tide;street t from b to c takes 3" + OPEN
            + "walker w broad 4 at a to c;walker v broad 1 at a to b;begin 5;");
        // s is wide for 4 in 10 and 11, so he is at b in 12, at c in 15
        Check.due("send(0)", x.send(0), 15);
        int[] walker = {4, 2, 0, 15};
        for (int what = 0; what < 4; what++) {
            Check.due("walker(0, " + what + ")", x.walker(0, what), walker[what]);
        }
        Check.due("the HOUR stays", x.has(3), 5);
        Check.due("the other one stays: walker(1, 1)", x.walker(1, 1), 0);
        Check.due("the other one stays: walker(1, 3)", x.walker(1, 3), 0);
        // back: b in 18, s in 22 and 23
        Check.due("send(0) back", x.send(0), 24);
        walker = new int[] {4, 0, 2, 24};
        for (int what = 0; what < 4; what++) {
            Check.due("walker(0, " + what + ") back", x.walker(0, what), walker[what]);
        }
        // from 5 on s has tides 5 0 1 2, so he goes in 7; back in 9 and 10
        Check.due("send(1)", x.send(1), 9);
        Check.stands(23, "A WALKER is SENT: his ARRIVAL;");
        Check.due("send(1) back", x.send(1), 11);
        Check.due("walker(1, 3)", x.walker(1, 3), 11);
        // one who has been SENT is in nobody's way
        x = Check.townOf(TWO + "street s from a to b takes 1" + OPEN + "walker w broad 9 at a to b;walker v broad 9 at a to b;");
        Check.due("send(0)", x.send(0), 1);
        Check.due("send(1)", x.send(1), 1);
    }

    private static void sentBehind9999() {
        Check.stands(23, "NONE, refused (2), when he has no WAY, that would be behind 9999, or there is none such.");
        for (int takes = 1; takes <= 4; takes++) {
            String town = TWO + "street s from a to b takes " + takes + OPEN + "walker w broad 9 at a to b;";
            BreathTown x = late(town, 9998 - takes);
            Check.due("send(0), there in 9998", x.send(0), 9998);
            x = late(town, 9999 - takes);
            Check.due("send(0), there in 9999", x.send(0), 9999);
            Check.due("walker(0, 3)", x.walker(0, 3), 9999);
            Check.due("send(0) back", x.send(0), NONE);
            Check.due("way(0, NONE) back", x.way(0, NONE), 9999 + takes);
            Check.due("status(2)", x.status(2), 1);
            x = late(town, 10000 - takes);
            int acts = x.has(8);
            Check.due("send(0), there in 10000", x.send(0), NONE);
            Check.due("his WAY stands", x.way(0, NONE), 10000);
            Check.due("walker(0, 1) stays", x.walker(0, 1), 0);
            Check.due("walker(0, 2) stays", x.walker(0, 2), 1);
            Check.due("walker(0, 3) stays", x.walker(0, 3), 0);
            Check.due("has(8) stays", x.has(8), acts);
            Check.due("status(2)", x.status(2), 1);
        }
    }

    private static void sendOfNone() {
        Check.stands(23, "NONE, refused (2), when he has no WAY");
        BreathTown x = Check.townOf(TWO + "place c;street s from a to b takes 1" + OPEN + "walker w broad 10 at a to b;walker v broad 9 at a to c;"
            + "walker u broad 9 at a to b;");
        int[] none = {0, 1, -1, 3, 5, 6, MOST, LEAST};
        for (int k = 0; k < none.length; k++) {
            Check.due("send(" + none[k] + ")", x.send(none[k]), NONE);
            Check.due("status(2)", x.status(2), k + 1);
        }
        Check.due("has(8) stays", x.has(8), 0);
        Check.due("walker(0, 1) stays", x.walker(0, 1), 0);
        Check.due("send(2)", x.send(2), 1);
        Check.due("status(2)", x.status(2), none.length);
    }

    private static void held() {
        Check.stands(24, "a tide is HELD some HOURS (its shift is so much less, modulo its round);");
        Check.stands(24, "A tide is HELD n HOURS (1 .. 99): the shift then;");
        // round, shift, hours, the shift then
        int[][] held = {{5, 3, 1, 2}, {5, 3, 3, 0}, {5, 3, 4, 4}, {5, 0, 1, 4}, {5, 0, 4, 1}, {5, 0, 5, 0}, {5, 0, 6, 4}, {5, 0, 98, 2},
            {5, 0, 99, 1}, {1, 0, 1, 0}, {1, 0, 99, 0}, {48, 47, 46, 1}, {48, 47, 47, 0}, {48, 47, 48, 47}, {48, 0, 96, 0}, {48, 0, 97, 47},
            {48, 0, 99, 45}, {2, 1, 99, 0}};
        for (int[] h : held) {
            BreathTown x = street("takes 1 round " + h[0] + " shift " + h[1] + " wide tide");
            Check.due("hold(0, " + h[2] + ") of round " + h[0] + ", shift " + h[1], x.hold(0, h[2]), h[3]);
            Check.due("street(0, 4)", x.street(0, 4), h[3]);
            Check.due("street(0, 5)", x.street(0, 5), h[3]);
            Check.due("width(0, 0)", x.width(0, 0), h[3]);
        }
        BreathTown x = Check.townOf(TWO + EdgesOfText.many("street ", 12, " from a to b takes 1 round 48 shift 9 wide tide;"));
        Check.due("hold(11, 4)", x.hold(11, 4), 5);
        Check.due("the HOUR stays", x.has(3), 0);
        for (int k = 0; k < 11; k++) {
            Check.due("the others stay: street(" + k + ", 4)", x.street(k, 4), 9);
        }
    }

    private static void holdOfNone() {
        Check.stands(24, "NONE, refused (2), when it can't be.");
        BreathTown x = street("takes 1 round 48 shift 9 wide tide");
        int[][] none = {{0, 0}, {0, -1}, {0, 100}, {0, MOST}, {0, LEAST}, {-1, 1}, {1, 1}, {11, 1}, {12, 1}, {MOST, 1}, {LEAST, 1}};
        for (int k = 0; k < none.length; k++) {
            Check.due("hold(" + none[k][0] + ", " + none[k][1] + ")", x.hold(none[k][0], none[k][1]), NONE);
            Check.due("status(2)", x.status(2), k + 1);
        }
        Check.due("street(0, 4) stays", x.street(0, 4), 9);
        Check.due("has(8) stays", x.has(8), 0);
    }

    private static void daysGoBy() {
        Check.stands(25, "n DAYS (1 .. 30) go by: the HOUR then;");
        BreathTown x = Check.townOf("begin 5;");
        Check.due("days(1)", x.days(1), 29);
        Check.due("days(2)", x.days(2), 77);
        Check.due("days(29)", x.days(29), 773);
        Check.due("days(30)", x.days(30), 1493);
        Check.due("has(3)", x.has(3), 1493);
        Check.due("four ACTS", x.has(8), 4);
        x = late("", 9974);
        Check.due("days(1) to 9998", x.days(1), 9998);
        x = late("", 9975);
        Check.due("days(1) to 9999", x.days(1), 9999);
        x = late("", 9279);
        Check.due("days(30) to 9999", x.days(30), 9999);
        Check.stands(25, "NONE, refused (2), when it can't be.");
        x = late("", 9976);
        Check.due("days(1) to 10000", x.days(1), NONE);
        Check.due("has(3) stays", x.has(3), 9976);
        x = late("", 9280);
        Check.due("days(30) to 10000", x.days(30), NONE);
        Check.due("has(3) stays", x.has(3), 9280);
        Check.due("days(29) to 9976", x.days(29), 9976);
    }

    private static void shiftsAre(String name, BreathTown x, int... shifts) {
        for (int k = 0; k < shifts.length; k++) {
            Check.due(name + ": street(" + k + ", 4)", x.street(k, 4), shifts[k]);
        }
    }

    private static void shiftsDrawn() {
        Check.stands(25, "DAYS go by: for each, 24 HOURS, and a DRAW of the STREETS, then a DRAW of 3: that STREET's shift is more by this, less 1, "
            + "modulo its round");
        String three = TWO + EdgesOfText.many("street ", 3, " from a to b takes 1 round 5 shift 4 wide tide;");
        BreathTown x = Check.townOf(three);
        // by the seed 5: 0 1, 2 2, 2 2, 1 2, 2 2, 0 2
        x.seed(5);
        int[][] days = {{4, 4, 4}, {4, 4, 0}, {4, 4, 1}, {4, 0, 1}, {4, 0, 2}, {0, 0, 2}};
        for (int k = 0; k < days.length; k++) {
            Check.due("days(1)", x.days(1), 24 * (k + 1));
            shiftsAre("day " + (k + 1) + " by 5", x, days[k]);
        }
        // several at once are as many one by one
        x = Check.townOf(three);
        x.seed(5);
        x.days(2);
        shiftsAre("two days by 5", x, days[1]);
        x.days(4);
        shiftsAre("six days by 5", x, days[5]);
        // less 1 of 0 is the round less 1: by the seed 7: 2 1, 1 1, 1 0, 0 0, 0 0
        x = Check.townOf(TWO + EdgesOfText.many("street ", 3, " from a to b takes 1 round 5 shift 0 wide tide;"));
        x.seed(7);
        x.days(2);
        shiftsAre("two days by 7", x, 0, 0, 0);
        x.days(1);
        shiftsAre("three days by 7", x, 0, 4, 0);
        x.days(2);
        shiftsAre("five days by 7", x, 3, 4, 0);
        // a round of 1 has the shift 0 alone; of 48: less 1 each day by the seed 1
        x = street("takes 1 round 1 shift 0 wide tide");
        x.seed(1);
        x.days(7);
        shiftsAre("a round of 1", x, 0);
        x = street("takes 1 round 48 shift 3 wide tide");
        x.seed(1);
        x.days(3);
        shiftsAre("three days of one street by 1", x, 0);
        x.days(1);
        shiftsAre("four days of one street by 1", x, 47);
        // twelve streets by the seed 2147483647: 11 0, 0 1, 6 2, 11 1, 1 2, 6 1, 3 0, 7 0
        x = Check.townOf(TWO + EdgesOfText.many("street ", 12, " from a to b takes 1 round 9 shift 4 wide tide;"));
        x.seed(MOST);
        x.days(8);
        shiftsAre("eight days of twelve streets", x, 4, 5, 4, 3, 4, 4, 5, 3, 4, 4, 4, 3);
    }

    private static void withoutStreets() {
        Check.stands(25, "(no DRAWS without STREETS).");
        BreathTown x = Check.townOf(TWO);
        x.seed(7);
        Check.due("days(30)", x.days(30), 720);
        // the seed is 7 still: 0 1, 1 1, 0 0 for two streets
        Check.town(x, TWO + EdgesOfText.many("street ", 2, " from a to b takes 1 round 9 shift 4 wide tide;"));
        x.days(3);
        shiftsAre("three days by 7", x, 3, 4);
        // one street's DRAW is one, too: by the seed 7 0 1, 0 1, 0 0, 0 0, 0 0, 0 2
        x = street("takes 1 round 9 shift 4 wide tide");
        x.seed(7);
        x.days(5);
        shiftsAre("five days by 7", x, 1);
        x.days(1);
        shiftsAre("six days by 7", x, 2);
    }

    private static void daysOfNone() {
        Check.stands(25, "NONE, refused (2), when it can't be.");
        BreathTown x = Check.townOf(TWO + EdgesOfText.many("street ", 2, " from a to b takes 1 round 9 shift 4 wide tide;"));
        x.seed(7);
        int[] none = {0, -1, 31, 32, MOST, LEAST};
        for (int k = 0; k < none.length; k++) {
            Check.due("days(" + none[k] + ")", x.days(none[k]), NONE);
            Check.due("status(2)", x.status(2), k + 1);
        }
        Check.due("has(3) stays", x.has(3), 0);
        Check.due("has(8) stays", x.has(8), 0);
        // a refused one draws nothing
        x.days(3);
        shiftsAre("three days by 7", x, 3, 4);
    }

    private static void lastTwenty() {
        Check.stands(26, "The last 20 can be undone.");
        for (int acts = 19; acts <= 22; acts++) {
            BreathTown x = new BreathTown();
            for (int k = 1; k <= acts; k++) {
                x.go(k);
            }
            int hour = acts * (acts + 1) / 2;
            int can = Math.min(acts, 20);
            Check.due("has(8) behind " + acts, x.has(8), can);
            for (int k = 0; k < can; k++) {
                Check.due("undo() " + k, x.undo(), true);
                hour -= acts - k;
                Check.due("has(3)", x.has(3), hour);
                Check.due("has(8)", x.has(8), can - k - 1);
            }
            Check.due("undo() of one more", x.undo(), false);
            Check.due("has(3) stays", x.has(3), hour);
            Check.due("status(3)", x.status(3), 1);
            // and then others, twenty again
            for (int k = 1; k <= 21; k++) {
                x.go(1);
            }
            Check.due("has(8) again", x.has(8), 20);
            for (int k = 1; k <= 20; k++) {
                Check.due("undo() again", x.undo(), true);
            }
            Check.due("undo() of one more", x.undo(), false);
            Check.due("has(3)", x.has(3), hour + 1);
        }
    }

    private static void undone() {
        Check.stands(26, "The latest ACT is undone (the seed stays): true;");
        BreathTown x = Check.townOf(TWO + "street s from a to b takes 2 round 9 shift 4 wide 9;walker w broad 9 at a to b;begin 7;");
        x.go(3);
        x.send(0);
        x.hold(0, 6);
        x.seed(7);
        x.days(3);
        // by 7 the DRAWS of 3 are 1 1 0, so that the shift is one less
        Check.due("the shift behind days(3)", x.street(0, 4), 6);
        Check.due("undo() of days", x.undo(), true);
        Check.due("the shift", x.street(0, 4), 7);
        Check.due("has(3)", x.has(3), 10);
        // the seed stays: 0 0 2 come next
        x.days(2);
        Check.due("the shift behind days(2)", x.street(0, 4), 5);
        x.days(1);
        Check.due("the shift behind days(1)", x.street(0, 4), 6);
        x.undo();
        x.undo();
        Check.due("undo() of hold", x.undo(), true);
        Check.due("the shift", x.street(0, 4), 4);
        Check.due("walker(0, 1)", x.walker(0, 1), 1);
        Check.due("undo() of send", x.undo(), true);
        int[] walker = {9, 0, 1, 0};
        for (int what = 0; what < 4; what++) {
            Check.due("walker(0, " + what + ")", x.walker(0, what), walker[what]);
        }
        Check.due("has(3)", x.has(3), 10);
        Check.due("undo() of go", x.undo(), true);
        Check.due("has(3)", x.has(3), 7);
        Check.stands(26, "false, refused (3), when none can be.");
        Check.due("undo() of none", x.undo(), false);
        Check.due("status(3)", x.status(3), 1);
        Check.due("undo() of none", x.undo(), false);
        Check.due("status(3)", x.status(3), 2);
        Check.due("has(3) stays", x.has(3), 7);
        // what is refused, the seed, what is SEEN, an image are no ACTS
        x.go(1);
        x.go(0);
        x.seed(9);
        Check.tape(x, 0, 0, 1, 9);
        x.see();
        x.image();
        Check.due("has(8)", x.has(8), 1);
        Check.due("undo()", x.undo(), true);
        Check.due("has(3)", x.has(3), 7);
        Check.due("what is SEEN stays", x.has(7), 1);
    }

    /** As full a town as can be: whatever an ACT has changed is as it was. */
    private static void allUndone() {
        Check.stands(26, "The latest ACT is undone");
        StringBuilder b = new StringBuilder(TWO + EdgesOfText.many("street ", 12, " from a to b takes 1 round 48 shift 9 wide 9;"));
        for (int k = 0; k < 6; k++) {
            b.append("walker w").append((char) ('a' + k)).append(" broad 1 at a to b;");
        }
        BreathTown x = Check.townOf(b.toString());
        for (int k = 0; k < 12; k++) {
            x.hold(k, k + 1);
        }
        for (int k = 0; k < 6; k++) {
            x.send(k);
        }
        x.go(2);
        x.go(1);
        x.undo();
        Check.due("has(3)", x.has(3), 2);
        x.undo();
        for (int done = 5; done >= 0; done--) {
            for (int k = 0; k < 6; k++) {
                boolean sent = k <= done;
                Check.due("walker(" + k + ", 1)", x.walker(k, 1), sent ? 1 : 0);
                Check.due("walker(" + k + ", 2)", x.walker(k, 2), sent ? 0 : 1);
                Check.due("walker(" + k + ", 3)", x.walker(k, 3), sent ? 1 : 0);
            }
            x.undo();
        }
        for (int done = 11; done >= 0; done--) {
            for (int k = 0; k < 12; k++) {
                Check.due("street(" + k + ", 4)", x.street(k, 4), k <= done ? (48 + 9 - k - 1) % 48 : 9);
            }
            x.undo();
        }
        for (int k = 0; k < 12; k++) {
            Check.due("street(" + k + ", 4)", x.street(k, 4), 9);
        }
        Check.due("has(8)", x.has(8), 0);
        Check.due("has(6)", x.has(6), 6);
    }

    private static void seeds() {
        Check.stands(27, "The seed: true; false, refused (4), when it is below 0.");
        BreathTown x = street("takes 1 round 9 shift 4 wide tide");
        Check.due("seed(0)", x.seed(0), true);
        Check.due("seed(1)", x.seed(1), true);
        Check.due("seed(most)", x.seed(MOST), true);
        Check.due("status(4)", x.status(4), 0);
        x.seed(7);
        Check.due("seed(-1)", x.seed(-1), false);
        Check.due("status(4)", x.status(4), 1);
        Check.due("seed(least)", x.seed(LEAST), false);
        Check.due("status(4)", x.status(4), 2);
        // the refused ones have not changed it: by 7 1 1 0
        x.days(3);
        Check.due("street(0, 4)", x.street(0, 4), 3);
        Check.stands(27, "(It is 1 at first.)");
        x = street("takes 1 round 9 shift 4 wide tide");
        // by 1 seven times 0, then 1; by 0 2 2 1, by 2147483647 0 1 2
        x.days(7);
        Check.due("street(0, 4) behind 7 days", x.street(0, 4), 6);
        x.days(1);
        Check.due("street(0, 4) behind 8 days", x.street(0, 4), 6);
    }

    private static void draws() {
        Check.stands(27, "A DRAW of m: x (the seed) becomes (1103515245 x + 12345) mod 2 to the 31; floor(x / 64) mod m.");
        // 1103515245 * 0 + 12345, by 64: 192; mod 5 it is 2; then by 1406932606: 21983321 mod 3 is 2
        Check.due("the first x", (1103515245L * 0 + 12345) / 64, 192);
        Check.due("the second x", (1103515245L * 12345 + 12345) % (1L << 31) / 64, 21983321);
        String five = TWO + EdgesOfText.many("street ", 5, " from a to b takes 1 round 9 shift 4 wide tide;");
        BreathTown x = Check.townOf(five);
        x.seed(0);
        x.days(1);
        shiftsAre("one day by 0", x, 4, 4, 5, 4, 4);
        x.seed(MOST);
        x.days(1);
        // 4 0
        shiftsAre("one day by the greatest", x, 4, 4, 5, 4, 3);
        x.seed(1);
        x.days(1);
        // 3 0
        shiftsAre("one day by 1", x, 4, 4, 5, 3, 3);
        // thirty days at once, by x as it was told
        long seed = 5;
        int[] shifts = {4, 4, 4, 4, 4};
        for (int day = 0; day < 30; day++) {
            seed = (1103515245L * seed + 12345) % 2147483648L;
            int street = (int) (seed / 64 % 5);
            seed = (1103515245L * seed + 12345) % 2147483648L;
            shifts[street] = (shifts[street] + (int) (seed / 64 % 3) - 1 + 9) % 9;
        }
        x = Check.townOf(five);
        x.seed(5);
        x.days(30);
        shiftsAre("thirty days by 5", x, shifts);
    }
}
