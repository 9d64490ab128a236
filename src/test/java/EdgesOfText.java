/** The sentences of the promises 4 and 5 (town, fault), and of the terms' first part: the town's text. */
final class EdgesOfText {
    private static final int NONE = BreathTown.NONE;
    private static final String TWO = "place a;place b;";
    private static final String STREET = TWO + "street s from a to b takes 1 round 7 shift 2 wide ";

    private EdgesOfText() {
    }

    static void all() {
        townAnswers();
        refusedTown();
        newTown();
        faultWhats();
        latestFault();
        statements();
        places();
        streetText();
        streetNumbers();
        walkerText();
        beginText();
        sums();
        fromTheLeft();
        quotients();
        held();
        EdgesOfFaults.all();
    }

    static String many(String before, int count, String behind) {
        StringBuilder b = new StringBuilder();
        for (int k = 0; k < count; k++) {
            b.append(before).append((char) ('c' + k)).append(behind);
        }
        return b.toString();
    }

    // ---- promises 4 and 5

    private static void townAnswers() {
        Check.stands(4, "The tape (it goes) is THE TOWN: how many STATEMENTS;");
        BreathTown x = new BreathTown();
        Check.due("an empty tape", x.town(), 0);
        Check.due("fault(0)", x.fault(0), 0);
        Check.due("status(1)", x.status(1), 0);
        Check.due("one", Check.town(x, "begin 7;"), 1);
        Check.due("the tape has gone", x.feed(0, 0, 0, 0, 0), 20);
        x.end(0);
        Check.due("two", Check.town(x, "begin 7;place a;"), 2);
        Check.due("has(0)", x.has(0), 1);
        Check.due("and again without a tape", x.town(), 0);
        Check.due("has(0)", x.has(0), 0);
        Check.due("has(3)", x.has(3), 0);
        Check.due("a faulty one", Check.town(x, "begin 7"), NONE);
        Check.due("the tape has gone", x.feed(0, 0, 0, 0, 0), 20);
        x.end(0);
        Check.due("seventy", Check.town(x, "begin 7;".repeat(70)), 70);
    }

    private static void refusedTown() {
        Check.stands(4, "NONE, refused (1), with a FAULT (all stays).");
        BreathTown x = Check.townOf(STREET + "9;walker w broad 2 at a to b;begin 23;");
        Check.tape(x, 0, 0, 1, 9);
        x.see();
        x.seed(7);
        x.go(1);
        x.send(0);
        x.hold(0, 3);
        x.image();
        String[] faulty = {"x", "place", TWO + "begin 1000;", "place c;place c;", STREET + "((((((( ", "begin 1;".repeat(71)};
        for (int k = 0; k < faulty.length; k++) {
            Check.due("town of " + faulty[k], Check.town(x, faulty[k]), NONE);
            Check.due("status(1)", x.status(1), k + 1);
        }
        int[] has = {2, 1, 1, 24, 1, 0, 0, 1, 3};
        for (int what = 0; what < has.length; what++) {
            Check.due("has(" + what + ") stays", x.has(what), has[what]);
        }
        Check.due("letter(0, 0, 0) stays", x.letter(0, 0, 0), 1);
        Check.due("letter(1, 0, 0) stays", x.letter(1, 0, 0), 19);
        int[] street = {0, 1, 1, 7, 6, 2, 9};
        for (int what = 0; what < street.length; what++) {
            Check.due("street(0, " + what + ") stays", x.street(0, what), street[what]);
        }
        int[] walker = {2, 1, 0, 25};
        for (int what = 0; what < walker.length; what++) {
            Check.due("walker(0, " + what + ") stays", x.walker(0, what), walker[what]);
        }
        Check.due("octet(1) stays", x.octet(1), 24);
        Check.due("shifts(0, NONE) stays", x.shifts(0, NONE), 7);
        Check.due("undo() as ahead", x.undo(), true);
        Check.due("street(0, 4)", x.street(0, 4), 2);
    }

    private static void newTown() {
        Check.stands(4, "Without one all are free, nothing is SEEN or can be undone; the seed stays.");
        String town = STREET + "9;walker w broad 2 at a to b;walker v broad 2 at b to a;begin 5;";
        BreathTown x = Check.townOf(town);
        x.send(0);
        x.send(1);
        Check.tape(x, 0, 0, 1, 9, 0, 0, 2, 9);
        x.see();
        Check.due("none are free", x.has(6), 0);
        Check.due("two rows are seen", x.has(7), 2);
        Check.due("two can be undone", x.has(8), 2);
        Check.due("town again", Check.town(x, town), 6);
        Check.due("all are free", x.has(6), 2);
        Check.due("walker(0, 3)", x.walker(0, 3), 0);
        Check.due("walker(1, 3)", x.walker(1, 3), 0);
        Check.due("nothing is seen", x.has(7), 0);
        Check.due("nothing can be undone", x.has(8), 0);
        Check.due("undo()", x.undo(), false);
        Check.due("walker(0, 1)", x.walker(0, 1), 0);
        Check.due("has(3)", x.has(3), 5);
        // by the seed 7 the draws of 3 are 2 1, 1 1, 1 0: after one day in one town and a day in another the third pair is next
        String three = TWO + many("street ", 3, " from a to b takes 1 round 9 shift 3 wide 9;");
        Check.town(x, three);
        x.seed(7);
        x.days(2);
        Check.town(x, three);
        x.days(1);
        Check.due("the third day's draw: street(0, 4)", x.street(0, 4), 3);
        Check.due("the third day's draw: street(1, 4)", x.street(1, 4), 2);
        Check.due("the third day's draw: street(2, 4)", x.street(2, 4), 3);
    }

    private static void faultWhats() {
        Check.stands(5, "Of the latest town() or ask(): its FAULT (what 0; 0 without, and ahead of any), its place (1; NONE without).");
        BreathTown x = new BreathTown();
        Check.due("ahead of any: fault(0)", x.fault(0), 0);
        Check.due("ahead of any: fault(1)", x.fault(1), NONE);
        Check.town(x, "place a;place b; begin 1000;");
        Check.due("a fault: fault(0)", x.fault(0), 2);
        Check.due("a fault: fault(1)", x.fault(1), 23);
        Check.town(x, "place a;");
        Check.due("none: fault(0)", x.fault(0), 0);
        Check.due("none: fault(1)", x.fault(1), NONE);
        Check.ask(x, "total");
        Check.due("a question's: fault(0)", x.fault(0), 1);
        Check.due("a question's: fault(1)", x.fault(1), 5);
        Check.stands(5, "NONE for another what.");
        Check.due("fault(2)", x.fault(2), NONE);
        Check.due("fault(-1)", x.fault(-1), NONE);
        Check.due("fault(most)", x.fault(Integer.MAX_VALUE), NONE);
        Check.due("fault(least)", x.fault(Integer.MIN_VALUE), NONE);
    }

    private static void latestFault() {
        Check.stands(5, "Of the latest town() or ask()");
        BreathTown x = new BreathTown();
        Check.ask(x, "total ((((((( ");
        Check.due("of ask: fault(0)", x.fault(0), 4);
        Check.due("of ask: fault(1)", x.fault(1), 12);
        Check.ask(x, "total 1");
        Check.due("of the next ask: fault(0)", x.fault(0), 0);
        Check.due("of the next ask: fault(1)", x.fault(1), NONE);
        Check.town(x, "place a;place a;");
        Check.due("of town: fault(0)", x.fault(0), 3);
        Check.due("of town: fault(1)", x.fault(1), 14);
        // neither see() nor on() has a FAULT
        Check.tape(x, 1, 2, 3);
        x.see();
        Check.tape(x, 1, 2, 3);
        x.on();
        Check.due("still of town: fault(0)", x.fault(0), 3);
        Check.due("still of town: fault(1)", x.fault(1), 14);
        Check.ask(x, "total 1");
        Check.due("of ask behind town: fault(0)", x.fault(0), 0);
    }

    // ---- the terms: statements

    private static void statements() {
        Check.stands(4, "I. A TOWN is a text: { STATEMENT ; } (70 at most)");
        Check.rightTown("", 0);
        Check.rightTown("\n", 0);
        Check.rightTown("begin 1;", 1);
        Check.faultyTown(1, "begin 1^");
        Check.faultyTown(1, "^;");
        Check.faultyTown(1, "begin 1;^;");
        Check.faultyTown(1, "begin 1 ^begin 1;");
        Check.rightTown("begin 1;".repeat(69), 69);
        Check.rightTown("begin 1;".repeat(70), 70);
        Check.rightTown("begin 1;".repeat(70) + " \n", 70);
        Check.faultyTown(5, "begin 1;".repeat(70) + "^begin 1;");
        Check.faultyTown(5, "begin 1;".repeat(70) + "\n ^begin 1;");
    }

    private static void places() {
        Check.stands(4, "place NAME (9 PLACES);");
        Check.rightTown(many("place ", 1, ";"), 1);
        Check.rightTown(many("place ", 8, ";"), 8);
        Check.rightTown(many("place ", 9, ";"), 9);
        Check.faultyTown(5, many("place ", 9, ";") + "^place z;");
        Check.rightTown(many("place ", 9, ";") + "begin 1;", 10);
        BreathTown x = Check.townOf(many("place ", 9, ";"));
        Check.due("has(0)", x.has(0), 9);
        for (int place = 0; place < 9; place++) {
            Check.due("letter(0, " + place + ", 0)", x.letter(0, place, 0), 3 + place);
        }
    }

    private static void streetText() {
        Check.stands(4, "street NAME from NAME to NAME takes N round N shift N wide SUM");
        Check.rightTown(TWO + "street s from a to b takes 1 round 1 shift 0 wide 1;", 3);
        Check.faultyTown(1, TWO + "street ^from a to b takes 1 round 1 shift 0 wide 1;");
        Check.faultyTown(1, TWO + "street s ^to b takes 1 round 1 shift 0 wide 1;");
        Check.faultyTown(1, TWO + "street s from a ^takes 1 round 1 shift 0 wide 1;");
        Check.faultyTown(1, TWO + "street s from a to b ^round 1 shift 0 wide 1;");
        Check.faultyTown(1, TWO + "street s from a to b takes ^round 1 shift 0 wide 1;");
        Check.faultyTown(1, TWO + "street s from a to b takes 1 ^shift 0 wide 1;");
        Check.faultyTown(1, TWO + "street s from a to b takes 1 round 1 ^wide 1;");
        Check.faultyTown(1, TWO + "street s from a to b takes 1 round 1 shift 0^;");
        Check.faultyTown(1, TWO + "street s from a to b takes 1 round 1 shift 0 wide^;");
        Check.faultyTown(1, TWO + "street s ^at a to b takes 1 round 1 shift 0 wide 1;");
        BreathTown x = Check.townOf("place a;place b;place c;street s from c to b takes 2 round 3 shift 1 wide 4;");
        int[] street = {2, 1, 2, 3, 1, 1, 4};
        for (int what = 0; what < street.length; what++) {
            Check.due("street(0, " + what + ")", x.street(0, what), street[what]);
        }
    }

    private static void streetNumbers() {
        Check.stands(4, "(two unlike PLACES; 1 .. 4, 1 .. 48, 0 .. 47; 12 STREETS);");
        String street = TWO + "street s from a to b ";
        Check.faultyTown(3, TWO + "street s from a to ^a takes 1 round 1 shift 0 wide 1;");
        Check.faultyTown(3, TWO + "street s from b to ^b takes 1 round 1 shift 0 wide 1;");
        Check.rightTown(TWO + "street s from b to a takes 1 round 1 shift 0 wide 1;", 3);
        Check.faultyTown(2, street + "takes ^0 round 1 shift 0 wide 1;");
        Check.rightTown(street + "takes 1 round 1 shift 0 wide 1;", 3);
        Check.rightTown(street + "takes 4 round 1 shift 0 wide 1;", 3);
        Check.faultyTown(2, street + "takes ^5 round 1 shift 0 wide 1;");
        Check.faultyTown(2, street + "takes 1 round ^0 shift 0 wide 1;");
        Check.rightTown(street + "takes 1 round 2 shift 0 wide 1;", 3);
        Check.rightTown(street + "takes 1 round 47 shift 0 wide 1;", 3);
        Check.rightTown(street + "takes 1 round 48 shift 0 wide 1;", 3);
        Check.faultyTown(2, street + "takes 1 round ^49 shift 0 wide 1;");
        Check.rightTown(street + "takes 1 round 1 shift 1 wide 1;", 3);
        Check.rightTown(street + "takes 1 round 1 shift 46 wide 1;", 3);
        Check.rightTown(street + "takes 1 round 1 shift 47 wide 1;", 3);
        Check.faultyTown(2, street + "takes 1 round 1 shift ^48 wide 1;");
        Check.faultyTown(1, street + "takes 1 round 1 shift ^-1 wide 1;");
        String one = " from a to b takes 1 round 1 shift 0 wide 1;";
        Check.rightTown(TWO + many("street ", 11, one), 13);
        Check.rightTown(TWO + many("street ", 12, one), 14);
        Check.faultyTown(5, TWO + many("street ", 12, one) + "^street z" + one);
        BreathTown x = Check.townOf(TWO + many("street ", 12, one));
        Check.due("has(1)", x.has(1), 12);
        Check.due("letter(1, 11, 0)", x.letter(1, 11, 0), 14);
    }

    private static void walkerText() {
        Check.stands(4, "walker NAME broad N at NAME to NAME (1 .. 99; two unlike PLACES; 6 WALKERS);");
        Check.faultyTown(2, TWO + "walker w broad ^0 at a to b;");
        Check.rightTown(TWO + "walker w broad 1 at a to b;", 3);
        Check.rightTown(TWO + "walker w broad 99 at a to b;", 3);
        Check.faultyTown(2, TWO + "walker w broad ^100 at a to b;");
        Check.faultyTown(3, TWO + "walker w broad 1 at a to ^a;");
        Check.faultyTown(3, TWO + "walker w broad 1 at b to ^b;");
        Check.rightTown(TWO + "walker w broad 1 at b to a;", 3);
        Check.faultyTown(1, TWO + "walker w ^at a to b;");
        Check.faultyTown(1, TWO + "walker w broad ^at a to b;");
        Check.faultyTown(1, TWO + "walker w broad 1 ^from a to b;");
        Check.faultyTown(1, TWO + "walker w broad 1 at a^;");
        Check.faultyTown(1, TWO + "walker ^broad 1 at a to b;");
        Check.rightTown(TWO + many("walker ", 5, " broad 1 at a to b;"), 7);
        Check.rightTown(TWO + many("walker ", 6, " broad 1 at a to b;"), 8);
        Check.faultyTown(5, TWO + many("walker ", 6, " broad 1 at a to b;") + "^walker z broad 1 at a to b;");
        BreathTown x = Check.townOf(TWO + many("walker ", 5, " broad 1 at a to b;") + "walker z broad 99 at b to a;");
        Check.due("has(2)", x.has(2), 6);
        int[] walker = {99, 1, 0, 0};
        for (int what = 0; what < walker.length; what++) {
            Check.due("walker(5, " + what + ")", x.walker(5, what), walker[what]);
        }
    }

    private static void hourOf(String text, int hour) {
        Check.due("the HOUR of " + text, Check.townOf(text).has(3), hour);
    }

    private static void beginText() {
        Check.stands(4, "begin N (an HOUR 0 .. 999; the last one counts; 0 without).");
        hourOf("begin 0;", 0);
        hourOf("begin 1;", 1);
        hourOf("begin 998;", 998);
        hourOf("begin 999;", 999);
        Check.faultyTown(2, "begin ^1000;");
        Check.faultyTown(1, "begin ^-1;");
        Check.faultyTown(1, "begin^;");
        hourOf("begin 5;place a;begin 7;", 7);
        hourOf("begin 7;begin 5;place a;", 5);
        hourOf("begin 7;begin 5;begin 0;", 0);
        hourOf("place a;", 0);
        hourOf("", 0);
        // 0 without also behind a town that had one
        BreathTown x = Check.townOf("begin 7;");
        Check.town(x, "place a;");
        Check.due("the HOUR of another town", x.has(3), 0);
    }

    // ---- the terms: sums

    /** In hour 53 the street's tide is (53 + 2) modulo 7, so 6; its round is 7, the clock 5, the day 2. */
    private static void width(String sum, int want) {
        Check.due("width by " + sum, Check.townOf(STREET + sum + ";").width(0, 53), want);
    }

    private static void sums() {
        Check.stands(4, "SUM: PRODUCT { + or - PRODUCT }.");
        width("5", 5);
        width("5+3", 8);
        width("5-3", 2);
        width("5+3-2+4", 10);
        width("5+2*3", 11);
        width("20-2*3", 14);
        Check.faultyTown(1, STREET + "^+5;");
        Check.faultyTown(1, STREET + "^-5;");
        Check.faultyTown(1, STREET + "5+^;");
        Check.faultyTown(1, STREET + "5-^-3;");
        Check.stands(4, "PRODUCT: PART { * or / PART }.");
        width("5*3", 15);
        width("15/3", 5);
        width("2*3*4/6", 4);
        Check.faultyTown(1, STREET + "^*5;");
        Check.faultyTown(1, STREET + "5*^;");
        Check.faultyTown(1, STREET + "5/^+3;");
        Check.faultyTown(1, STREET + "5^%3;");
        Check.stands(4, "PART: N (1 to 4 digits); tide; round; clock; day; ( SUM ) ; min ( SUM , SUM ) ; max ( SUM , SUM ) .");
        width("0", 0);
        width("7", 7);
        width("99", 99);
        width("100-17", 83);
        width("9999-9990", 9);
        width("0008", 8);
        Check.faultyTown(1, STREET + "0000^8;");
        width("tide", 6);
        width("round", 7);
        width("clock", 5);
        width("day", 2);
        width("(3)", 3);
        width("2*(3+4)", 14);
        width("min(3,4)", 3);
        width("min(4,3)", 3);
        width("max(3,4)", 4);
        width("max(4,3)", 4);
        width("min(4,4)+max(4,4)", 8);
        width("max(0-4,0-5)+9", 5);
        width("min(0-4,0-5)+9", 4);
        width("min(1+2*3,9)*max(tide,round)", 49);
        // six deep, with a sum, a product and a min waiting at each: 5, then 1 more seven times
        width("1+1*min(99,".repeat(6) + "1+1*5" + ")".repeat(6), 12);
        // 8, then by 20 less twice as much, from 0 on: 4, 12, -4, 20, -20, 20
        width("20-2*max(0,".repeat(6) + "20-2*6" + ")".repeat(6), 20);
        Check.faultyTown(1, STREET + "(^);");
        Check.faultyTown(1, STREET + "(3^;");
        Check.faultyTown(1, STREET + "(3^,4);");
        Check.faultyTown(1, STREET + "3^);");
        Check.faultyTown(1, STREET + "min ^3;");
        Check.faultyTown(1, STREET + "min(^,4);");
        Check.faultyTown(1, STREET + "min(3^);");
        Check.faultyTown(1, STREET + "min(3,^);");
        Check.faultyTown(1, STREET + "max(3,4^,5);");
        Check.faultyTown(1, STREET + "max(3,4^;");
        Check.faultyTown(1, STREET + "^hour;");
        Check.faultyTown(1, STREET + "^width 0;");
        Check.faultyTown(1, STREET + "^a;");
    }

    private static void fromTheLeft() {
        Check.stands(4, "All from the left on;");
        width("10-3-2", 5);
        width("10-3+2", 9);
        width("24/4/2", 3);
        width("24/4*2", 12);
        width("7/2*2", 6);
        width("2*7/2", 7);
        width("5*3/2", 7);
        // a product ahead of the sum it stands in
        width("20-6/2-1", 16);
    }

    private static void quotients() {
        Check.stands(4, "/ gives the greatest whole number not above, by 0 it gives 0;");
        width("6/2", 3);
        width("7/2", 3);
        width("8/2", 4);
        width("(0-6)/2+10", 7);
        width("(0-7)/2+10", 6);
        width("(0-8)/2+10", 6);
        width("7/(0-2)+10", 6);
        width("(0-7)/(0-2)", 3);
        width("(0-1)/9999+10", 9);
        width("1/9999+10", 10);
        width("0/5+10", 10);
        width("7/1", 7);
        width("7/0+10", 10);
        width("(0-7)/0+10", 10);
        width("0/0+10", 10);
        width("7/(tide-6)+10", 10);
        width("7/(tide-5)+10", 17);
        width("7/(tide-7)+10", 3);
    }

    private static void held() {
        Check.stands(4, "each sum, difference, product above 10 to the 6 is that, below -10 to the 6 likewise.");
        // 9999*100 is 999900, so behind it -9999*100-20 leaves 80 of 1000000
        width("9999*100+99-9999*100-20", 79);
        width("9999*100+100-9999*100-20", 80);
        width("9999*100+101-9999*100-20", 80);
        width("9999*100-(0-99)-9999*100-20", 79);
        width("9999*100-(0-100)-9999*100-20", 80);
        width("9999*100-(0-101)-9999*100-20", 80);
        // 999*1001 is 999999, 101*9901 is 1000001
        width("999*1001-9999*100-20", 79);
        width("1000*1000-9999*100-20", 80);
        width("101*9901-9999*100-20", 80);
        // -1000000 leaves 50 of 999900 + 150
        width("0-9999*100+(0-99)+9999*100+150", 51);
        width("0-9999*100+(0-100)+9999*100+150", 50);
        width("0-9999*100+(0-101)+9999*100+150", 50);
        width("0-9999*100-99+9999*100+150", 51);
        width("0-9999*100-100+9999*100+150", 50);
        width("0-9999*100-101+9999*100+150", 50);
        width("(0-999)*1001+9999*100+150", 51);
        width("(0-1000)*1000+9999*100+150", 50);
        width("(0-101)*9901+9999*100+150", 50);
        // each by itself: also those in the middle, and products too great for 32 bits
        width("1000*1000+50-50-9999*100-20", 30);
        width("1000*1000*1000*1000-9999*100-20", 80);
        width("(0-1000*1000)*(1000*1000)+9999*100+150", 50);
        width("9999*9999/1000-990", 10);
        width("(0-1000*1000)/(0-1)-9999*100-20", 80);
    }
}
