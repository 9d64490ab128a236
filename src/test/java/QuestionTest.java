/** Promises 31 and 5: ask, and its faults. */
final class QuestionTest {
    private static final long NONE = BreathTown.NONE;
    private static final BreathTown X = Check.townOf("place a;place b;"
        + "street s from a to b takes 1 round 24 shift 0 wide tide;street t from a to b takes 2 round 10 shift 3 wide 12-tide;"
        + "walker v broad 5 at a to b;walker w broad 20 at b to a;begin 30;");

    public static void main(String[] args) {
        answers();
        sums();
        tests();
        ofTown();
        unexpected();
        tooDeep();
        tapeGoes();
        Check.finish("QuestionTest");
    }

    private static void answer(String text, long want) {
        Check.rightQuestion(X, text, want);
    }

    private static void faulty(int kind, String marked) {
        Check.faultyQuestion(X, kind, marked);
    }

    private static void answers() {
        answer("first all", 30);
        answer("last all", 230);
        answer("often all", 201);
        answer("total 1", 201);
        answer("total hour", 201 * 130);
        answer("most hour", 230);
        answer("least hour", 30);
        answer("first hour>229", 230);
        answer("first hour>230", NONE);
        answer("last hour<31", 30);
        answer("last hour<30", NONE);
        answer("often hour=30", 1);
        answer("often hour=231", 0);
        answer(" \nfirst\n[all]\n", 30);
        answer("first not all", NONE);
        answer("least 0-1", -1);
        answer("most 0-1", -1);
        answer("total 0-5", -5 * 201);
        answer("total 9999*9999", 201L * 1000000);
        answer("least 0-9999*9999*9999", -1000000);
    }

    private static void sums() {
        answer("most 2+3*4-10/4", 12);
        answer("most (0-7)/2", -4);
        answer("most 5/0", 0);
        answer("most min(3,4)*max(3,4)", 12);
        answer("first clock=0", 48);
        answer("first day=2", 48);
        answer("most day", 9);
        answer("least clock", 0);
        answer("most clock", 23);
        answer("most 9999*9999+9999*9999-999*1000", 1000);
    }

    private static void tests() {
        answer("first hour>40 and hour<50", 41);
        answer("last hour>40 and hour<50", 49);
        answer("often hour=40 or hour=50 and hour=60", 1);
        answer("often [hour=40 or hour=50] and hour=40", 1);
        answer("often [hour=40 or hour=50]and hour<60", 2);
        answer("often not hour=40", 200);
        answer("often not not hour=40", 1);
        answer("often not hour=40 and hour<50", 19);
        answer("often not[hour=40 or hour=41]and hour<50", 18);
        answer("often hour=hour", 201);
        answer("often hour+1>hour", 201);
        answer("often hour<hour", 0);
        answer("often 1=1 and 2=2 and 3=4 or 5=6 or hour<33", 3);
    }

    private static void ofTown() {
        answer("first width 0=23", 47);
        answer("most width 1", 12);
        answer("least width 1", 3);
        answer("first tide 1=0", 37);
        answer("most tide 0", 23);
        answer("first passes 0=2", 30);
        answer("first passes 0=1", 34);
        answer("often passes 1=1", 32);
        answer("most passes 1", 1);
        answer("total width 2", 0);
        answer("total tide 2", 0);
        answer("total passes 2", 0);
        answer("total width 12+tide 12+passes 12+passes 6+width 9999+width 13+tide 36", 0);
        answer("total width(0-1)+tide(0-1)+passes(0-1)", 0);
        answer("first width(0+0)=23", 47);
        answer("first width tide 1=11", 38);
        answer("first width tide 1=12", NONE);
        answer("first width 1*2=24", 37);
        answer("first width width 9=23", 47);
    }

    private static void unexpected() {
        faulty(1, "^");
        faulty(1, " \n^");
        faulty(1, "^firs all");
        faulty(1, "^firsts all");
        faulty(1, "^7");
        faulty(1, "^all");
        faulty(1, "first^");
        faulty(1, "first ^;");
        faulty(1, "first^7=7");
        faulty(1, "first ^al");
        faulty(1, "first all^;");
        faulty(1, "first all ^all");
        faulty(1, "first hour^");
        faulty(1, "first hour ^and");
        faulty(1, "first hour=^");
        faulty(1, "first hour=1 ^an");
        faulty(1, "first hour=1 and^");
        faulty(1, "first hour=1^and all");
        faulty(1, "first hour=1^=1");
        faulty(1, "first [all^");
        faulty(1, "first [all^)");
        faulty(1, "first (^all)");
        faulty(1, "first (hour^=1)");
        faulty(1, "first not^");
        faulty(1, "total ^all");
        faulty(1, "total ^not all");
        faulty(1, "total hour^=1");
        faulty(1, "total hour^;");
        faulty(1, "total ^round");
        faulty(1, "total ^hours");
        faulty(1, "total width^0");
        faulty(1, "total width ^");
        faulty(1, "total tide^");
        faulty(1, "total tide^+1");
        faulty(1, "total passes ^-1");
        faulty(1, "total min(1^)");
        faulty(1, "total min ^1");
        faulty(1, "total 1234^5");
        faulty(1, "total 1^\t");
        faulty(1, "total 1 ^1");
    }

    private static void tooDeep() {
        answer("most ((((((1))))))", 1);
        faulty(4, "most ((((((^(1");
        answer("often [[[[[[all]]]]]]", 201);
        faulty(4, "often [[[[[[^[all");
        answer("often not not not not not not all", 201);
        faulty(4, "often not not not not not not ^not all");
        answer("most width width width width width width 9", 23);
        faulty(4, "most width width width width width width ^width 9");
        faulty(4, "most tide passes width tide passes width ^tide 9");
        faulty(4, "most tide passes width tide passes width ^passes 9");
        faulty(4, "most tide passes width tide passes width ^(9");
        faulty(4, "most tide passes width tide passes width min^(9");
        faulty(4, "often [not [not width (^tide (9");
        faulty(4, "often not[not[width(^tide 0)<width 1]]");
        answer("often not[not[width tide 0<width 1]]and not[not[width tide 0<width 1]]", Check.ask(X,
            "often width(tide 0)<width 1"));
        answer("often not not not not not not all and not not not not not not all", 201);
        answer("most width 0+width(1)+width(width(width 9))*0+((((((1))))))*0+tide 0*0", 23 + 12);
    }

    private static void tapeGoes() {
        BreathTown x = new BreathTown();
        Check.ask(x, "first al");
        Check.due("the tape goes with a fault", x.feed(0, 0, 0, 0, 0), 20);
        Check.ask(x, "first all");
        Check.due("the tape goes", x.feed(0, 0, 0, 0, 0), 20);
        Check.due("nothing is refused", x.status(1), 0);
        x.end(0);
        Check.due("a question of an empty tape", x.ask(), BreathTown.NOTHING);
        Check.due("its fault", x.fault(0), 1);
        Check.due("its place", x.fault(1), 0);
    }
}
