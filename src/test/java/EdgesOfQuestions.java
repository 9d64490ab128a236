/** The sentences of the promise 31 (ask), of the terms' fourth part on QUESTIONS, and of their FAULTS. */
final class EdgesOfQuestions {
    private static final int NONE = BreathTown.NONE;
    /** From hour 30 on; s is as wide as its tide, 6 7 .. 23 0 ..; t goes 9 8 .. 3 12 11 10 9 .. and takes two. */
    private static final String TOWN = "place a;place b;street s from a to b takes 1 round 24 shift 0 wide tide;"
        + "street t from a to b takes 2 round 10 shift 3 wide 12-tide;walker v broad 5 at a to b;walker w broad 20 at b to a;begin 30;";
    private static final BreathTown X = Check.townOf(TOWN);

    private EdgesOfQuestions() {
    }

    static void all() {
        hours();
        heads();
        notHeld();
        heldWithin();
        tests();
        facts();
        signs();
        sums();
        parts();
        ofTheTown();
        ofNumbersThatThereAreNot();
        ofAFullTown();
        tapeGoes();
        unexpected();
        side();
        seventhOpen();
        untilItsEnd();
    }

    private static void right(String text, long answer) {
        Check.rightQuestion(X, text, answer);
    }

    private static void faulty(int kind, String marked) {
        Check.faultyQuestion(X, kind, marked);
    }

    // ---- hours and heads

    private static void hours() {
        Check.stands(31, "IV. A QUESTION is a text, of the 201 HOURS from now on:");
        right("often all", 201);
        right("first hour=29", NONE);
        right("first hour=30", 30);
        right("last hour=230", 230);
        right("last hour=231", NONE);
        right("often hour<30", 0);
        right("often hour>230", 0);
        right("often hour>229", 1);
        right("often hour<31", 1);
        BreathTown x = new BreathTown();
        Check.rightQuestion(x, "last all", 200);
        x.go(500);
        Check.rightQuestion(x, "first all", 500);
        Check.rightQuestion(x, "last all", 700);
        Check.rightQuestion(x, "often all", 201);
        for (int k = 0; k < 18; k++) {
            x.go(500);
        }
        x.go(499);
        // the hours behind 9999, too
        Check.rightQuestion(x, "last all", 10199);
        Check.rightQuestion(x, "most hour", 10199);
    }

    private static void heads() {
        Check.stands(31, "first TEST, last TEST (the first, the last HOUR in which it holds), often TEST (in how many), total SUM (of all together, "
            + "not held), most SUM, least SUM (the greatest, the least of all).");
        right("first hour>40 and hour<50", 41);
        right("last hour>40 and hour<50", 49);
        right("often hour>40 and hour<50", 9);
        right("first hour>30", 31);
        right("last hour<230", 229);
        right("often hour>30", 200);
        right("total 1", 201);
        right("total hour", 201 * 130);
        right("total clock/23", 8);
        right("most hour", 230);
        right("most 230-hour", 200);
        right("least hour", 30);
        right("least 230-hour", 0);
        right("most 0-hour", -30);
        right("least 0-hour", -230);
        // the greatest and the least in the middle
        right("most 9-max(hour-77,77-hour)", 9);
        right("least max(hour-77,77-hour)-9", -9);
        right("most 0-1", -1);
        right("least 1", 1);
        Check.stands(31, "NONE of first, last, when its TEST holds in none;");
        right("first hour>230", NONE);
        right("last hour<30", NONE);
        right("first not all", NONE);
        right("last not all", NONE);
        right("often not all", 0);
        right("last hour<31", 30);
        right("first hour>229", 230);
    }

    private static void notHeld() {
        Check.stands(31, "total SUM (of all together, not held)");
        right("total 9999*9999", 201000000L);
        right("total 0-9999*9999", -201000000L);
        right("total 4975", 999975);
        right("total 4976", 1000176);
        right("total 0-4975", -999975);
        right("total 0-4976", -1000176);
        right("total 9999*100", 200979900L);
    }

    private static void heldWithin() {
        Check.stands(31, "SUM as in I");
        right("most 9999*100+99", 999999);
        right("most 9999*100+100", 1000000);
        right("most 9999*100+101", 1000000);
        right("least 0-9999*100-99", -999999);
        right("least 0-9999*100-100", -1000000);
        right("least 0-9999*100-101", -1000000);
        right("most 999*1001", 999999);
        right("most 1000*1000", 1000000);
        right("most 101*9901", 1000000);
        right("least (0-101)*9901", -1000000);
        right("least (0-999)*1001", -999999);
        right("most 1000*1000+5-5", 999995);
        right("most (0-7)/2", -4);
        right("most 7/(0-2)", -4);
        right("most (0-7)/(0-2)", 3);
        right("most 7/2", 3);
        right("most 7/0", 0);
        right("most (0-7)/0", 0);
        right("most 1000*1000/(0-1)", -1000000);
        right("most 10-3-2", 5);
        right("most 24/4*2", 12);
        right("most 2+3*4-10/4", 12);
    }

    // ---- tests and sums

    private static void tests() {
        Check.stands(31, "TEST: BOTH { or BOTH }.");
        right("often hour=40 or hour=50", 2);
        right("often hour=40 or hour=50 or hour=60", 3);
        right("often hour=40 or hour=40", 1);
        right("often all or all", 201);
        right("often not all or not all", 0);
        right("often hour=40 or all", 201);
        faulty(1, "often ^or all");
        faulty(1, "often all or^");
        faulty(1, "often all or ^or all");
        Check.stands(31, "BOTH: FACT { and FACT }.");
        right("often hour>40 and hour<43", 2);
        right("often hour>40 and hour<43 and hour=42", 1);
        right("often all and all", 201);
        right("often all and not all", 0);
        right("often not all and all", 0);
        faulty(1, "often ^and all");
        faulty(1, "often all and^");
        // and binds more than or does
        right("often hour=40 or hour=50 and hour=60", 1);
        right("often hour=40 and hour=50 or hour=60", 1);
        right("often hour=40 and hour=40 or hour=60 and hour=60", 2);
        right("often all or all and not all", 201);
        right("often not all and all or all", 201);
    }

    private static void facts() {
        Check.stands(31, "FACT: not FACT; [ TEST ] ; all; SUM SIGN SUM,");
        right("often not hour=40", 200);
        right("often not not hour=40", 1);
        right("often not not not hour=40", 200);
        right("often not hour=40 and hour<50", 19);
        right("often not hour=40 or hour=40", 201);
        right("often not [hour=40 or hour=50]", 199);
        right("often [hour=40 or hour=50] and hour=40", 1);
        right("often [all]", 201);
        right("often [[hour=40]]", 1);
        right("often all", 201);
        right("often hour+1=40", 1);
        right("often 40=hour+1", 1);
        right("often(hour)=(40)", 1);
        faulty(1, "often not^");
        faulty(1, "often [^]");
        faulty(1, "often [all^");
        faulty(1, "often [all^)");
        faulty(1, "often all^]");
        faulty(1, "often (^all)");
        faulty(1, "often hour^");
        faulty(1, "often hour=^");
        faulty(1, "often (hour^=40)");
        faulty(1, "often hour=40^=1");
        faulty(1, "often hour=^all");
        faulty(1, "often hour ^and all");
    }

    private static void signs() {
        Check.stands(31, "SIGN < or > or = .");
        right("often hour<40", 10);
        right("often hour>40", 190);
        right("often hour=40", 1);
        right("often 5<5", 0);
        right("often 4<5", 201);
        right("often 6<5", 0);
        right("often 5>5", 0);
        right("often 6>5", 201);
        right("often 4>5", 0);
        right("often 5=5", 201);
        right("often 4=5", 0);
        right("often 6=5", 0);
        right("often 0-5<0-4", 201);
        faulty(1, "often 5<^=5");
        faulty(1, "often 5^!5");
        faulty(1, "often 5<^>5");
    }

    private static void sums() {
        Check.stands(31, "but PART: N; hour; clock; day; width PART; tide PART; passes PART; ( SUM ) ; min ( SUM , SUM ) ; max ( SUM , SUM ) .");
        right("most 0", 0);
        right("most 9999", 9999);
        right("most 0007", 7);
        right("most (7)", 7);
        right("most min(3,4)", 3);
        right("most min(4,3)", 3);
        right("most max(3,4)", 4);
        right("most max(4,3)", 4);
        right("most min(hour,100)", 100);
        right("least max(hour,100)", 100);
        right("most 3*(1+1)", 6);
        faulty(1, "most ^round");
        faulty(1, "most ^all");
        faulty(1, "most ^not 1");
        faulty(1, "most ^[1]");
        faulty(1, "most ^-1");
        faulty(1, "most 1^=1");
        faulty(1, "most width^");
        faulty(1, "most tide ^*2");
        faulty(1, "most passes ^)");
        faulty(1, "most min ^1");
        faulty(1, "most min(1^)");
        faulty(1, "most max(1,2^,3)");
        faulty(1, "most ^a");
        // width, tide, passes take a PART alone
        right("most width 0+9000", 9023);
        right("most width 0*2", 46);
        right("most width(0+1)", 12);
        right("most width min(0,1)", 23);
        right("first width tide 1=11", 38);
        right("most width width 9", 23);
        // six deep, with a test, a sum, a product and a min waiting: 5, then 1 more seven times
        right("often 1=2 or 1=1 and 12=" + "1+1*min(99,".repeat(6) + "1+1*5" + ")".repeat(6), 201);
        right("often 1=2 or 1=1 and 13=" + "1+1*min(99,".repeat(6) + "1+1*5" + ")".repeat(6), 0);
    }

    private static void parts() {
        Check.stands(31, "(The HOUR, its clock, its day;");
        right("first clock=0", 48);
        right("first clock=23", 47);
        right("most clock", 23);
        right("least clock", 0);
        right("first clock=5", 53);
        right("first day=1", 30);
        right("last day=1", 47);
        right("first day=2", 48);
        right("most day", 9);
        right("often day=9", 15);
        right("often day=1", 18);
        right("often day*24+clock=hour", 201);
    }

    private static void ofTheTown() {
        Check.stands(31, "WIDTH, TIDE of the STREET of that number then; how many STREETS the WALKER of that number PASSES from then on;");
        right("first width 0=23", 47);
        right("first width 0=0", 48);
        right("first width 0=6", 30);
        right("most width 0", 23);
        // t: (30 + 3) modulo 10 is 3
        right("first width 1=9", 30);
        right("first width 1=12", 37);
        right("most width 1", 12);
        right("least width 1", 3);
        right("first tide 0=6", 30);
        right("first tide 0=0", 48);
        right("first tide 1=3", 30);
        right("first tide 1=0", 37);
        right("most tide 1", 9);
        right("often width 1=12-tide 1", 201);
        // v passes s from 5 on and t unless it is below 5 in one of two hours: 9 8 7 6 5 4 3 12 from 30 on: not in 34, 35, 36
        right("first passes 0=2", 30);
        right("first passes 0=1", 34);
        right("often hour<40 and passes 0=1", 3);
        right("first hour>34 and passes 0=2", 37);
        // s is below 5 in 48 to 52 and 72 to 76, t can't be passed from hours that end with 4, 5, 6
        right("first passes 0=0", 74);
        // w passes s from 20 to 23
        right("first passes 1=1", 44);
        right("often passes 1=1", 32);
        right("most passes 1", 1);
        // by the shift that is now
        BreathTown x = Check.townOf(TOWN);
        x.hold(0, 2);
        Check.rightQuestion(x, "first width 0=23", 49);
        Check.rightQuestion(x, "first tide 0=0", 50);
        Check.rightQuestion(x, "first passes 1=1", 46);
        x.undo();
        Check.rightQuestion(x, "first width 0=23", 47);
        // as many hours together as it takes, also behind the last of the 201
        x = Check.townOf("place a;place b;street s from a to b takes 4 round 1 shift 0 wide max(day-8,0)*9;walker v broad 9 at a to b;begin 15;");
        Check.rightQuestion(x, "first width 0=9", NONE);
        x.go(1);
        Check.rightQuestion(x, "first width 0=9", 216);
        Check.rightQuestion(x, "first passes 0=1", 216);
        Check.rightQuestion(x, "often passes 0=1", 1);
        x = Check.townOf("place a;place b;street s from a to b takes 4 round 1 shift 0 wide max(8-day,0)*9;walker v broad 9 at a to b;begin 15;");
        Check.rightQuestion(x, "last width 0>8", 191);
        Check.rightQuestion(x, "last passes 0=1", 188);
    }

    private static void ofNumbersThatThereAreNot() {
        Check.stands(31, "0 of numbers that there are not.)");
        for (String number : new String[] {"2", "3", "11", "12", "13", "23", "24", "25", "36", "9999", "(0-1)", "(0-2)", "(0-12)", "(0-13)",
            "(0-9999*9999)", "(9999*9999)"}) {
            for (String of : new String[] {"width ", "tide ", "passes "}) {
                right("most " + of + number, 0);
                right("least " + of + number, 0);
            }
        }
        right("most width 1", 12);
        right("most passes 1", 1);
        Check.rightQuestion(new BreathTown(), "most width 0+tide 0+passes 0", 0);
        Check.rightQuestion(Check.townOf("place a;place b;walker v broad 1 at a to b;"), "most passes 0", 0);
        // a town with fewer behind one with more
        BreathTown x = Check.townOf(TOWN);
        Check.rightQuestion(x, "most width 1+tide 1+passes 1", 12 + 1);
        Check.town(x, "place a;place b;street s from a to b takes 1 round 5 shift 0 wide 7;walker v broad 1 at a to b;");
        Check.rightQuestion(x, "most width 1+tide 1+passes 1", 0);
        Check.rightQuestion(x, "least width 0+tide 0*0+passes 0", 8);
    }

    /** Twelve streets as wide as their numbers and 1, six walkers of the breadths 7 to 12. */
    private static void ofAFullTown() {
        Check.stands(31, "of the STREET of that number then;");
        StringBuilder b = new StringBuilder("place a;place b;");
        for (int k = 0; k < 12; k++) {
            b.append("street s").append((char) ('a' + k)).append(" from a to b takes 1 round 48 shift ").append(k + 20).append(" wide ")
                .append(k + 1).append(';');
        }
        for (int k = 0; k < 6; k++) {
            b.append("walker w").append((char) ('a' + k)).append(" broad ").append(k + 7).append(" at a to b;");
        }
        BreathTown x = Check.townOf(b.toString());
        for (int k = 0; k < 12; k++) {
            Check.rightQuestion(x, "least width " + k, k + 1);
            Check.rightQuestion(x, "first tide " + k + "=0", 28 - k);
        }
        for (int k = 0; k < 6; k++) {
            Check.rightQuestion(x, "least passes " + k, 6 - k);
        }
        for (String none : new String[] {"width 12", "tide 12", "passes 6", "passes 11", "passes 12", "width(0-1)", "tide(0-1)", "passes(0-1)"}) {
            Check.rightQuestion(x, "most " + none, 0);
            // also when widths, tides and streets passed are asked for at once
            Check.rightQuestion(x, "most " + none + "+0*(width 0+tide 0+passes 0)", 0);
        }
        Check.rightQuestion(x, "most width 11+tide 11+passes 5", 12 + 47 + 1);
    }

    // ---- the tape, faults

    private static void tapeGoes() {
        Check.stands(31, "The tape (it goes) is a QUESTION: its answer;");
        BreathTown x = Check.townOf(TOWN);
        Check.rightQuestion(x, "most hour", 230);
        Check.due("the tape goes", x.feed(0, 0, 0, 0, 0), 20);
        x.end(0);
        Check.stands(31, "NOTHING with a FAULT.");
        Check.faultyQuestion(x, 1, "most^");
        Check.due("the tape goes with a fault, too", x.feed(0, 0, 0, 0, 0), 20);
        x.end(0);
        Check.faultyQuestion(x, 1, "^");
        Check.faultyQuestion(x, 4, "most ((((((^(1");
        Check.faultyQuestion(x, 1, "first hour=40^;");
        Check.due("nothing is refused", x.status(1), 0);
        Check.due("nothing has been done", x.has(8), 0);
        // a question of 1600 bytes
        StringBuilder b = new StringBuilder("most 9");
        while (b.length() < 1600) {
            b.append("+1");
        }
        Check.due("its length", b.length(), 1600);
        Check.rightQuestion(x, b.toString(), 9 + 797);
        b.setLength(1599);
        Check.faultyQuestion(x, 1, b + "^");
        b.setLength(0);
        b.append("often all");
        while (b.length() < 1593) {
            b.append(" or all");
        }
        Check.rightQuestion(x, b.toString(), 201);
    }

    private static void unexpected() {
        Check.stands(31, "Its FAULTS: 1 as in I (an unknown word at its first byte; what stands behind it, too);");
        faulty(1, " \n^");
        faulty(1, "^firs all");
        faulty(1, "^firsts all");
        faulty(1, "^First all");
        faulty(1, "^7");
        faulty(1, "^all");
        faulty(1, "^;");
        faulty(1, "^place a;");
        faulty(1, "first^");
        faulty(1, "last \n^");
        faulty(1, "often^");
        faulty(1, "total^");
        faulty(1, "most^");
        faulty(1, "least^");
        faulty(1, "first ^al");
        faulty(1, "first ^alls");
        faulty(1, "first hour=1 ^an all");
        faulty(1, "first hour=1 ^ands all");
        faulty(1, "first ^no all");
        faulty(1, "total ^hours");
        faulty(1, "total ^hou");
        faulty(1, "total ^widths 0");
        faulty(1, "total ^passe 0");
        faulty(1, "total ^qwertzuiop");
        faulty(1, "total 1+^x");
        faulty(1, "total 1234^5");
        faulty(1, "total 0000^1");
        faulty(1, "total width 1234^5");
        faulty(1, "total ^+1");
        faulty(1, "total 1^\t");
        faulty(1, "total^\r1");
        faulty(1, "total (1^");
        faulty(1, "total width (1^");
        // what stands behind it
        faulty(1, "total 1 ^1");
        faulty(1, "total 1^;");
        faulty(1, "total 1^)");
        faulty(1, "total 1 ^total 1");
        faulty(1, "total 1 ^and all");
        faulty(1, "first all ^all");
        faulty(1, "first all^;");
        faulty(1, "first all^]");
        faulty(1, "first all^+1");
        faulty(1, "first hour=1 ^hour=1");
        right("total 1 \n ", 201);
        right(" \n total 1", 201);
    }

    private static void side() {
        Check.stands(31, "1 as in I");
        // words and numbers side by side need a blank, signs need none
        faulty(1, "total^1");
        right("total\n1", 201);
        faulty(1, "total width^0");
        faulty(1, "total 1^width 0");
        faulty(1, "first hour=1^and all");
        faulty(1, "^firstall");
        faulty(1, "first ^notall");
        faulty(1, "first ^hourhour");
        right("first[all]", 30);
        right("first not[all]", NONE);
        right("total(1)", 201);
        right("total min(1,2)*max(1,2)+(3)", 5 * 201);
        right("first[hour=40]or[hour=39]and all", 39);
        right("total\nwidth\n(\n0\n)\n*\n0", 0);
    }

    private static void seventhOpen() {
        Check.stands(31, "4 the 7th of ( [ not width tide passes that is open at once");
        right("most ((((((1))))))", 1);
        faulty(4, "most ((((((^(1)))))))");
        right("most min(min(min(min(min(min(1,2),2),2),2),2),2)", 1);
        faulty(4, "most min(min(min(min(min(min(1,^(2)),2),2),2),2),2)");
        faulty(4, "most min(min(min(min(min(min(1,min^(2,3)),2),2),2),2),2)");
        right("often [[[[[[all]]]]]]", 201);
        faulty(4, "often [[[[[[^[all]]]]]]]");
        right("often not not not not not not all", 201);
        faulty(4, "often not not not not not not ^not all");
        right("most width width width width width width 9", 23);
        faulty(4, "most width width width width width width ^width 9");
        right("most tide tide tide tide tide tide 9", 23);
        faulty(4, "most tide tide tide tide tide tide ^tide 9");
        right("most passes passes passes passes passes passes 9", 2);
        faulty(4, "most passes passes passes passes passes passes ^passes 9");
        // all of them together
        String six = "often not [not width (tide ";
        right(six + "9)>9999]", 0);
        faulty(4, six + "^passes 9");
        faulty(4, six + "^width 9");
        faulty(4, six + "^tide 9");
        faulty(4, six + "^(9");
        faulty(4, six + "min^(9,9");
        faulty(1, six + "^not 9");
        faulty(1, six + "^[9");
        faulty(4, "often [not [not [not ^[all");
        faulty(4, "often [not [not [not ^not all");
        faulty(4, "often [not [not [not ^(1");
        faulty(4, "often [not [not [not ^width 0");
        faulty(4, "often [not [not [not ^tide 0");
        faulty(4, "often [not [not [not ^passes 0");
        faulty(4, "often [not [not [not max^(1,2)");
        faulty(1, "often [not [not [not max ^1");
        right("often [not [not [not all]]]", 0);
        // at it, whatever stands behind it
        faulty(4, "most ((((((^(");
        faulty(4, "often not not not not not not ^not");
        faulty(1, "often not not not not not not ^nota");
    }

    private static void untilItsEnd() {
        Check.stands(31, "(not until its FACT, width, tide, passes until their PART ends), at it.");
        String nots = "not not not not not not all";
        right("often " + nots + " and " + nots, 201);
        right("often " + nots + " or " + nots, 201);
        right("often [not not not not not all and not not not not not all]", 0);
        // not is open up to the end of its FACT, so also behind its SIGN
        right("often not 1=(((((1)))))", 0);
        faulty(4, "often not 1=(((((^(1");
        faulty(4, "often not (((((^(1");
        right("often not 1=1 and 1=((((((1))))))", 0);
        right("often 1=1 or 1=((((((1))))))", 201);
        right("often not[not[not all]]and[[[[[[all]]]]]]", 0);
        // width, tide, passes up to the end of their PART
        String widths = "width width width width width width 9";
        right("most " + widths + "+" + widths, 46);
        right("most " + widths + "*0+((((((1))))))", 1);
        right("most width 0*0+((((((1))))))", 1);
        right("most width(((((1)))))", 12);
        faulty(4, "most width(((((^(1");
        right("most tide(((((1)))))", 9);
        faulty(4, "most tide(((((^(1");
        right("most passes(((((1)))))", 1);
        faulty(4, "most passes(((((^(1");
        // where w passes s alone, in 47, s has the tide 23 and t the tide 0
        right("most width tide passes min(1,((1)))", 23);
        faulty(4, "most width tide passes min(1,((^(1");
        // ( and [ up to their ) and ]
        right("most (1)+(1)+(1)+(1)+(1)+(1)+(1)+(1)", 8);
        right("often [all]and[all]and[all]and[all]and[all]and[all]and[all]", 201);
        right("most min((((((1))))),(((((2))))))", 1);
        faulty(4, "most min((((((1))))),(((((^(2");
        faulty(4, "most min(1,2)+((((((^(1");
    }
}
