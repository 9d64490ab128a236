/** Promises 4 to 9: town, fault, has, letter, street, walker. */
final class TownTest {
    private static final String TWO = "place a;place b;";
    private static final String STREET = "street s from a to b takes 1 round 4 shift 0 wide tide;";

    public static void main(String[] args) {
        rightTexts();
        unexpected();
        impossibleNumbers();
        names();
        tooDeep();
        tooMany();
        staysAndGoes();
        looks();
        Check.finish("TownTest");
    }

    private static void right(String text, int statements) {
        Check.rightTown(text, statements);
    }

    private static void faulty(int kind, String marked) {
        Check.faultyTown(kind, marked);
    }

    private static void rightTexts() {
        right("", 0);
        right(" \n \n", 0);
        right("place a;", 1);
        right("\nplace\na\n;\n", 1);
        right("place abcdef;place hour;place or;place first;place width;", 5);
        right(TWO + STREET, 3);
        right(TWO + "street s from b to a takes 4 round 48 shift 47 wide((tide))+round*clock/day-min(1,max(2,3));", 3);
        right(TWO + "street s from a to b takes 0001 round 1 shift 0 wide 9999;begin 0;begin 0999;", 5);
        right(TWO + "walker w broad 99 at b to a;walker v broad 1 at a to b;", 4);
        right("begin 1;".repeat(70) + "  \n", 70);
    }

    private static void unexpected() {
        faulty(1, "^;");
        faulty(1, "^x;");
        faulty(1, " \n^plac");
        faulty(1, "^placex a;");
        faulty(1, "^Place a;");
        faulty(1, "^7");
        faulty(1, "^\t");
        faulty(1, "place^");
        faulty(1, "place ^");
        faulty(1, "place ^;");
        faulty(1, "place ^7;");
        faulty(1, "place^7;");
        faulty(1, "place ^A;");
        faulty(1, "place ^\u00e9;");
        faulty(1, "place a^");
        faulty(1, "place a \n^");
        faulty(1, "place a^1;");
        faulty(1, "place a^A;");
        faulty(1, "place a ^place b;");
        faulty(1, "place a;^;");
        faulty(1, "place a;place b;street s ^frome a to b;");
        faulty(1, TWO + "street s from a ^b");
        faulty(1, TWO + "street s from a to b takes ^x");
        faulty(1, TWO + "street s from a to b takes^1");
        faulty(1, TWO + "street s from a to b takes 1^round 1");
        faulty(1, TWO + "street s from a to b takes 1 round 2 ^wide");
        faulty(1, TWO + "street s from a to b takes 1 round 2 shift 0 wide^;");
        faulty(1, TWO + "street s from a to b takes 1 round 2 shift 0 wide^3;");
        faulty(1, TWO + "street s from a to b takes 1 round 2 shift 0 wide tide^3;");
        faulty(1, TWO + "street s from a to b takes 1 round 2 shift 0 wide tide ^round;");
        faulty(1, TWO + "street s from a to b takes 1 round 2 shift 0 wide ^hour;");
        faulty(1, TWO + "street s from a to b takes 1 round 2 shift 0 wide ^width 0;");
        faulty(1, TWO + "street s from a to b takes 1 round 2 shift 0 wide ^-1;");
        faulty(1, TWO + "street s from a to b takes 1 round 2 shift 0 wide 1+^;");
        faulty(1, TWO + "street s from a to b takes 1 round 2 shift 0 wide (1^;");
        faulty(1, TWO + "street s from a to b takes 1 round 2 shift 0 wide (^);");
        faulty(1, TWO + "street s from a to b takes 1 round 2 shift 0 wide min ^1;");
        faulty(1, TWO + "street s from a to b takes 1 round 2 shift 0 wide min(1^);");
        faulty(1, TWO + "street s from a to b takes 1 round 2 shift 0 wide max(1,2^,3);");
        faulty(1, TWO + "street s from a to b takes 1 round 2 shift 0 wide 1234^5;");
        faulty(1, TWO + "street s from a to b takes 1 round 2 shift 0 wide 1^<2;");
        faulty(1, TWO + "walker w broad 5 at a ^from b;");
        faulty(1, "begin ^;");
        faulty(1, "begin 5^");
        faulty(1, "begin 0000^0;");
        faulty(1, "begin 9999^9;");
    }

    private static void impossibleNumbers() {
        String street = TWO + "street s from a to b ";
        faulty(2, street + "takes ^0 round");
        faulty(2, street + "takes ^5 round");
        faulty(2, street + "takes 4 round ^0 ");
        faulty(2, street + "takes 1 round ^49");
        faulty(2, street + "takes 1 round 48 shift ^48 wide");
        faulty(2, street + "takes 1 round 1 shift ^9999");
        faulty(2, TWO + "walker w broad ^0 at");
        faulty(2, TWO + "walker w broad ^100 at");
        faulty(2, "begin  ^1000;");
        right(street + "takes 4 round 1 shift 47 wide 0;", 3);
    }

    private static void names() {
        for (String own : Model.OWN) {
            faulty(1, "place ^" + own + ";");
        }
        faulty(1, "place abcdef^g;");
        faulty(1, "place street^s;");
        faulty(1, TWO + "street s from aaaaaa^a to b");
        faulty(1, TWO + "street s from ^from");
        faulty(1, TWO + "street ^wide from a");
        faulty(3, "place a; place  ^a;");
        faulty(3, TWO + "street ^a from a to b");
        faulty(3, TWO + STREET + "place ^s;");
        faulty(3, TWO + STREET + "walker ^s broad");
        faulty(3, TWO + "walker w broad 1 at a to b;place ^w;");
        faulty(3, TWO + "walker w broad 1 at ^w to");
        faulty(3, TWO + "walker w broad 1 at a to ^a;");
        faulty(3, TWO + "walker w broad 1 at a to ^c;place c;");
        faulty(3, TWO + "street s from ^s to a");
        faulty(3, TWO + "street s from b to ^b takes");
        faulty(3, TWO + STREET + "walker w broad 1 at ^s to a");
    }

    private static void tooDeep() {
        String street = TWO + "street s from a to b takes 1 round 2 shift 0 wide ";
        right(street + "((((((1))))));", 3);
        faulty(4, street + "((((((^(1)))))));");
        faulty(4, street + "((((((1)))+(((^((1");
        right(street + "((((((1)))+(((1))))))+((((((2))))));", 3);
        right(street + "min(1,max(2,min(3,(4+(5+(6))))));", 3);
        faulty(4, street + "min(1,max(2,min(3,(4+(5+(6+min^(1");
        right(street + "((((min((1),2)))));", 3);
        right(street + "((((max(1,(2))))));", 3);
        faulty(4, street + "((((((min ^(1,2)");
        faulty(1, street + "((((((min ^1,2)");
    }

    private static String many(String before, int count, String behind) {
        StringBuilder b = new StringBuilder();
        for (int k = 0; k < count; k++) {
            b.append(before).append((char) ('c' + k)).append(behind);
        }
        return b.toString();
    }

    private static void tooMany() {
        String street = " from a to b takes 1 round 1 shift 0 wide 1;";
        String walker = " broad 1 at a to b;";
        right(many("place ", 9, ";"), 9);
        faulty(5, many("place ", 9, ";") + " ^place z;");
        faulty(5, many("place ", 9, ";") + "^place");
        faulty(1, many("place ", 9, ";") + "^placed");
        right(TWO + many("street ", 12, street), 14);
        faulty(5, TWO + many("street ", 12, street) + "^street 7");
        right(TWO + many("walker ", 6, walker), 8);
        faulty(5, TWO + many("walker ", 6, walker) + "^walker x broad");
        faulty(5, "begin 1;".repeat(70) + " ^begin 2;");
        faulty(5, "begin 1;".repeat(70) + "\n^;");
        faulty(5, "begin 1;".repeat(70) + "^(");
        faulty(1, "begin 1;".repeat(69) + "begin 1 ^");
    }

    private static void staysAndGoes() {
        BreathTown x = Check.townOf(TWO + STREET + "walker w broad 2 at a to b;begin 5;");
        Check.tape(x, 0, 0, 1, 1);
        x.see();
        x.send(0);
        x.hold(0, 1);
        Check.due("a faulty town", Check.town(x, TWO + "begin 7;x"), BreathTown.NONE);
        Check.due("has(1)", x.has(1), 1);
        Check.due("has(3)", x.has(3), 5);
        Check.due("has(6)", x.has(6), 0);
        Check.due("has(7)", x.has(7), 1);
        Check.due("has(8)", x.has(8), 2);
        Check.due("fault(0)", x.fault(0), 1);
        Check.due("street(0, 4)", x.street(0, 4), 3);
        Check.due("image()", x.image(), 8);
        Check.due("a right town", Check.town(x, TWO + STREET + "walker w broad 2 at a to b;begin 6;"), 5);
        Check.due("fault(0)", x.fault(0), 0);
        Check.due("has(3)", x.has(3), 6);
        Check.due("has(6)", x.has(6), 1);
        Check.due("has(7)", x.has(7), 0);
        Check.due("has(8)", x.has(8), 0);
        Check.due("street(0, 4)", x.street(0, 4), 0);
        Check.due("walker(0, 1)", x.walker(0, 1), 0);
        Check.due("walker(0, 3)", x.walker(0, 3), 0);
        Check.due("the latest image's hour", x.octet(1), 5);
        Check.due("ask", Check.ask(x, "often ="), BreathTown.NOTHING);
        Check.due("fault(0) of ask", x.fault(0), 1);
        Check.due("fault(1) of ask", x.fault(1), 6);
        Check.due("ask", Check.ask(x, "often all"), 201);
        Check.due("fault(1) of ask", x.fault(1), BreathTown.NONE);
        Check.due("the empty town", x.town(), 0);
        Check.due("has(0)", x.has(0), 0);
        Check.due("has(3)", x.has(3), 0);
        Check.due("width(0, 0)", x.width(0, 0), BreathTown.NONE);
    }

    private static void looks() {
        BreathTown x = Check.townOf("place az;begin 700;place b;place c;street lmn from c to az takes 3 round 5 shift 14 wide tide*9+1;"
            + "walker abcdef broad 99 at b to c;walker z broad 1 at c to az;begin 51;");
        int[] has = {3, 1, 2, 51, 2, 3, 2, 0, 0};
        for (int what = 0; what < has.length; what++) {
            Check.due("has(" + what + ")", x.has(what), has[what]);
        }
        Check.due("has(9)", x.has(9), BreathTown.NONE);
        Check.due("has(-1)", x.has(-1), BreathTown.NONE);
        Check.due("letter(0, 0, 0)", x.letter(0, 0, 0), 1);
        Check.due("letter(0, 0, 1)", x.letter(0, 0, 1), 26);
        Check.due("letter(0, 0, 2)", x.letter(0, 0, 2), 0);
        Check.due("letter(0, 2, 5)", x.letter(0, 2, 5), 0);
        Check.due("letter(1, 0, 2)", x.letter(1, 0, 2), 14);
        Check.due("letter(2, 0, 5)", x.letter(2, 0, 5), 6);
        Check.due("letter(2, 0, 6)", x.letter(2, 0, 6), BreathTown.NONE);
        Check.due("letter(2, 0, -1)", x.letter(2, 0, -1), BreathTown.NONE);
        Check.due("letter(2, 2, 0)", x.letter(2, 2, 0), BreathTown.NONE);
        Check.due("letter(1, 1, 0)", x.letter(1, 1, 0), BreathTown.NONE);
        Check.due("letter(0, -1, 0)", x.letter(0, -1, 0), BreathTown.NONE);
        Check.due("letter(3, 0, 0)", x.letter(3, 0, 0), BreathTown.NONE);
        Check.due("letter(-1, 0, 0)", x.letter(-1, 0, 0), BreathTown.NONE);
        // shift 14 counts 4; (51 + 4) modulo 5 is 0
        int[] street = {2, 0, 3, 5, 4, 0, 1};
        for (int what = 0; what < street.length; what++) {
            Check.due("street(0, " + what + ")", x.street(0, what), street[what]);
        }
        x.go(1);
        Check.due("street(0, 5)", x.street(0, 5), 1);
        Check.due("street(0, 6)", x.street(0, 6), 10);
        Check.due("street(0, 7)", x.street(0, 7), BreathTown.NONE);
        Check.due("street(0, -1)", x.street(0, -1), BreathTown.NONE);
        Check.due("street(1, 0)", x.street(1, 0), BreathTown.NONE);
        Check.due("street(-1, 0)", x.street(-1, 0), BreathTown.NONE);
        int[] walker = {99, 1, 2, 0};
        for (int what = 0; what < walker.length; what++) {
            Check.due("walker(0, " + what + ")", x.walker(0, what), walker[what]);
        }
        Check.due("walker(0, 4)", x.walker(0, 4), BreathTown.NONE);
        Check.due("walker(0, -1)", x.walker(0, -1), BreathTown.NONE);
        Check.due("walker(2, 0)", x.walker(2, 0), BreathTown.NONE);
        Check.due("walker(-1, 0)", x.walker(-1, 0), BreathTown.NONE);
        // hour 52: widths 10 19 28 37 1 and so on from there; the walker of breadth 1 passes from 52 on
        Check.due("send(1)", x.send(1), 55);
        Check.due("walker(1, 1)", x.walker(1, 1), 0);
        Check.due("walker(1, 2)", x.walker(1, 2), 2);
        Check.due("walker(1, 3)", x.walker(1, 3), 55);
        Check.due("has(6)", x.has(6), 1);
        Check.due("has(8)", x.has(8), 2);
        x.go(3);
        Check.due("has(6)", x.has(6), 2);
    }
}
