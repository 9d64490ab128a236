/** The sentences of the terms' first part on NAMES, blanks and FAULTS, by the promises 4, 5 and 7. */
final class EdgesOfFaults {
    private static final String TWO = "place a;place b;";
    private static final String STREET = TWO + "street s from a to b takes 1 round 7 shift 2 wide ";
    private static final String WALKER = "walker w broad 5 at a to b;";
    private static final String[] OWN_WORDS = {"place", "street", "from", "to", "takes", "round", "shift", "wide", "walker",
        "broad", "at", "begin", "tide", "clock", "day", "min", "max"};

    private EdgesOfFaults() {
    }

    static void all() {
        letters();
        noOwnWord();
        unlikeNames();
        toldAhead();
        blanks();
        sideBySide();
        firstAlongTheText();
        firstByte();
        wholeWords();
        namesAsked();
        fifthDigit();
        endsTooSoon();
        impossible();
        misnamed();
        seventhOpen();
        oneTooMany();
    }

    // ---- names and blanks

    private static void letters() {
        Check.stands(4, "NAMES: 1 to 6 letters");
        Check.faultyTown(1, "place ^;");
        Check.rightTown("place q;", 1);
        Check.rightTown("place qwertz;", 1);
        Check.faultyTown(1, "place qwertz^u;");
        Check.faultyTown(1, "place ^1;");
        Check.faultyTown(1, "place q^1;");
        Check.faultyTown(1, "place q^_;");
        Check.faultyTown(1, "place ^`;");
        Check.faultyTown(1, "place ^{;");
        Check.rightTown("place az;place za;", 2);
        // six letters are told apart to the last one
        Check.rightTown("place abcdef;place abcdeg;place bbcdef;place abcde;", 4);
        BreathTown x = Check.townOf("place zzzzzz;place a;");
        for (int k = 0; k < 6; k++) {
            Check.due("letter(0, 0, " + k + ")", x.letter(0, 0, k), 26);
            Check.due("letter(0, 1, " + k + ")", x.letter(0, 1, k), k == 0 ? 1 : 0);
        }
    }

    private static void noOwnWord() {
        Check.stands(4, "no OWN WORD");
        for (String own : OWN_WORDS) {
            Check.faultyTown(1, "place ^" + own + ";");
            Check.faultyTown(1, TWO + "street ^" + own + " from a to b takes 1 round 1 shift 0 wide 1;");
            Check.faultyTown(1, TWO + "walker ^" + own + " broad 1 at a to b;");
            // a letter less is no OWN WORD; neither is one more, up to six
            Check.rightTown("place " + own.substring(1) + ";", 1);
            if (own.length() < 6) {
                Check.rightTown("place " + own + "x;", 1);
                Check.rightTown("place x" + own + ";", 1);
            }
        }
        Check.stands(4, "OWN WORDS: place, street, from, to, takes, round, shift, wide, walker, broad, at, begin, tide, "
            + "clock, day, min, max.");
        String[] others = {"hour", "width", "passes", "first", "last", "often", "total", "most", "least", "and", "or", "not", "all"};
        for (String other : others) {
            Check.rightTown("place " + other + ";", 1);
        }
        Check.due("seventeen", OWN_WORDS.length, 17);
        for (String own : OWN_WORDS) {
            Check.faultyTown(1, TWO + "walker w broad 1 at ^" + own + " to b;");
        }
    }

    private static void unlikeNames() {
        Check.stands(4, "unlike ones (of all sorts)");
        String street = " from a to b takes 1 round 1 shift 0 wide 1;";
        String walker = " broad 1 at a to b;";
        String all = TWO + "street s" + street + "walker w" + walker;
        Check.rightTown(all + "place c;street t" + street + "walker v" + walker, 7);
        for (String name : new String[] {"a", "b", "s", "w"}) {
            Check.faultyTown(3, all + "place ^" + name + ";");
            Check.faultyTown(3, all + "street ^" + name + street);
            Check.faultyTown(3, all + "walker ^" + name + walker);
        }
        // alike in the beginning is not alike
        Check.rightTown("place ab;place a;place abc;place b;", 4);
    }

    private static void toldAhead() {
        Check.stands(4, "told ahead of where they are asked.");
        Check.faultyTown(3, "place a;street s from a to ^b takes 1 round 1 shift 0 wide 1;place b;");
        Check.rightTown("place a;place b;street s from a to b takes 1 round 1 shift 0 wide 1;", 3);
        Check.faultyTown(3, "street s from ^a to b takes 1 round 1 shift 0 wide 1;place a;place b;");
        Check.faultyTown(3, "place b;walker w broad 1 at ^a to b;place a;");
        Check.rightTown("place b;place a;walker w broad 1 at a to b;", 3);
        // not even the former town's
        BreathTown x = Check.townOf("place a;place b;");
        Check.due("a walker without his places", Check.town(x, "walker w broad 1 at a to b;"), BreathTown.NONE);
        Check.due("fault(0)", x.fault(0), 3);
        Check.due("fault(1)", x.fault(1), 20);
    }

    private static void blanks() {
        Check.stands(4, "Blanks (10, 32) are where one likes");
        Check.rightTown("\n place \n\n a  ; \n place\nb\n;\n\n street\ns\nfrom a\nto b\ntakes\n1 round\n7 shift 2\nwide\n( \n3 + min \n( tide \n"
            + ", 4 ) * \n2 )\n;\n", 3);
        Check.rightTown("place a;place b;street s from a to b takes 1 round 7 shift 2 wide(3+min(tide,4)*2);", 3);
        for (int sign : new int[] {0, 9, 11, 12, 13, 31, 33, 127, 128, 133, 160, 255}) {
            Check.faultyTown(1, "^" + (char) sign);
            Check.faultyTown(1, "place^" + (char) sign + "a;");
            Check.faultyTown(1, "place a^" + (char) sign + ";");
            Check.faultyTown(1, "place a;^" + (char) sign);
            Check.faultyTown(1, STREET + "1^" + (char) sign + ";");
        }
        // not within a word or a number
        Check.faultyTown(1, "^pla ce a;");
        Check.faultyTown(1, "place a ^b;");
        Check.faultyTown(1, STREET + "1 ^0;");
        Check.faultyTown(1, STREET + "^ti de;");
    }

    private static void sideBySide() {
        Check.stands(4, "(words and numbers side by side need one).");
        Check.faultyTown(1, "^placea;");
        Check.rightTown("place a;", 1);
        Check.rightTown("place\na;", 1);
        Check.faultyTown(1, "begin^5;");
        Check.rightTown("begin 5;", 1);
        Check.rightTown("begin\n5;", 1);
        Check.faultyTown(1, TWO + "street s from a to b takes^1 round 7 shift 2 wide 3;");
        Check.faultyTown(1, TWO + "street s from a to b takes 1^round 7 shift 2 wide 3;");
        Check.faultyTown(1, TWO + "street s from a to b takes 1 round^7 shift 2 wide 3;");
        Check.faultyTown(1, TWO + "street s from a to b takes 1 round 7^shift 2 wide 3;");
        Check.faultyTown(1, TWO + "street s from a to b takes 1 round 7 shift^2 wide 3;");
        Check.faultyTown(1, TWO + "street s from a to b takes 1 round 7 shift 2^wide 3;");
        Check.faultyTown(1, TWO + "street s from a to b takes 1 round 7 shift 2 wide^3;");
        Check.faultyTown(1, TWO + "walker w broad^5 at a to b;");
        Check.faultyTown(1, TWO + "walker w broad 5^at a to b;");
        Check.rightTown(TWO + "walker w broad 5 at a to b;", 3);
        // a sign on either side needs none
        Check.rightTown("place a;place b;street s from a to b takes 1 round 7 shift 2 wide(3)*min(tide,day)+4;begin 7;", 4);
    }

    // ---- faults

    private static void firstAlongTheText() {
        Check.stands(5, "FAULTS, the first along the text:");
        Check.faultyTown(2, "begin ^1000;x");
        Check.faultyTown(1, "^x;begin 1000;");
        Check.faultyTown(3, "place a;place ^a;begin 1000;");
        Check.faultyTown(2, "begin ^1000;place a;place a;");
        Check.faultyTown(4, STREET + "((((((^(3;begin 1000;");
        Check.faultyTown(2, "begin ^1000;" + STREET + "(((((((3;");
        Check.faultyTown(5, "begin 1;".repeat(70) + "^begin 1000;");
        Check.faultyTown(2, "begin 1;".repeat(69) + "begin ^1000;begin 1;");
        Check.faultyTown(3, TWO + "street s from a to ^a takes 9 round 99 shift 99 wide x");
        Check.faultyTown(2, TWO + "street s from a to b takes ^9 round 99 shift 99 wide x");
    }

    private static void firstByte() {
        Check.stands(5, "1 the first byte with which no such text goes on");
        Check.faultyTown(1, "^,");
        Check.faultyTown(1, "^(place a);");
        Check.faultyTown(1, "place ^;");
        Check.faultyTown(1, "place a^,");
        Check.faultyTown(1, "place a ;^;");
        Check.faultyTown(1, "place a^:");
        Check.faultyTown(1, TWO + "street s^;");
        Check.faultyTown(1, TWO + "street s from^;");
        Check.faultyTown(1, STREET + "1^<2;");
        Check.faultyTown(1, STREET + "1^(2);");
        Check.faultyTown(1, STREET + "(1)^(2);");
        Check.faultyTown(1, STREET + "1^,2;");
        Check.faultyTown(1, STREET + "^[1];");
        Check.faultyTown(1, "begin ^(5);");
        Check.faultyTown(1, "begin ^/;");
        Check.faultyTown(1, "begin ^:;");
        Check.faultyTown(1, "begin 5^/;");
        Check.faultyTown(1, "begin 5^:;");
        Check.faultyTown(1, "begin 5^+1;");
    }

    private static void wholeWords() {
        Check.stands(5, "(words and numbers whole, at their first byte;");
        Check.faultyTown(1, "^plac a;");
        Check.faultyTown(1, "^places a;");
        Check.faultyTown(1, "^q");
        Check.faultyTown(1, "^plac");
        Check.faultyTown(1, " \n^walke");
        Check.faultyTown(1, "^Place a;");
        Check.faultyTown(1, "^12;");
        Check.faultyTown(1, "^12345;");
        Check.faultyTown(1, "^from a;");
        Check.faultyTown(1, "place a ^place b;");
        Check.faultyTown(1, "place ^1234;");
        Check.faultyTown(1, TWO + "street s ^fro a");
        Check.faultyTown(1, TWO + "street s ^fromm a");
        Check.faultyTown(1, TWO + "street s ^12345");
        Check.faultyTown(1, TWO + "street s from a ^too b");
        Check.faultyTown(1, TWO + "street s from a ^t");
        Check.faultyTown(1, TWO + "street s from a to b takes ^one");
        Check.faultyTown(1, TWO + "street s from a to b takes 1 ^rounds 7");
        Check.faultyTown(1, TWO + "street s from a to b takes 1 round 7 ^shif 2");
        Check.faultyTown(1, STREET + "^tides;");
        Check.faultyTown(1, STREET + "^tid;");
        Check.faultyTown(1, STREET + "3+^clocks;");
        Check.faultyTown(1, STREET + "^mi(1,2);");
        Check.faultyTown(1, STREET + "^minimum(1,2);");
        Check.faultyTown(1, STREET + "1 ^min(1,2);");
        Check.faultyTown(1, STREET + "tide ^12;");
        Check.faultyTown(1, STREET + "tide;^;");
        Check.faultyTown(1, TWO + "walker w ^broader 5");
        Check.faultyTown(1, TWO + "walker w broad ^five");
        Check.faultyTown(1, "begin ^x;");
        Check.faultyTown(1, "^begins 5;");
    }

    private static void namesAsked() {
        Check.stands(5, "where a NAME is asked, an OWN WORD so, a 7th letter at itself;");
        for (String own : OWN_WORDS) {
            Check.faultyTown(1, "place ^" + own);
            Check.faultyTown(1, TWO + "street s from ^" + own + " to b");
            Check.faultyTown(1, TWO + "street s from a to ^" + own);
        }
        Check.rightTown("place abcdef;", 1);
        Check.faultyTown(1, "place abcdef^g;");
        Check.faultyTown(1, "place abcdef^gh;");
        Check.faultyTown(1, "place street^s;");
        Check.faultyTown(1, "place placea^b;");
        Check.faultyTown(1, TWO + "street abcdef^g from a to b");
        Check.faultyTown(1, TWO + "street s from abcdef^g to b");
        Check.faultyTown(3, TWO + "street s from ^abcdef to b");
        Check.faultyTown(1, TWO + "walker w broad 1 at abcdef^g to b");
        Check.faultyTown(1, TWO + "walker w broad 1 at a to walker^s;");
    }

    private static void fifthDigit() {
        Check.stands(5, "where a number is asked, a 5th digit at itself;");
        Check.rightTown("begin 0999;", 1);
        Check.faultyTown(1, "begin 0000^0;");
        Check.faultyTown(1, "begin 0000^999;");
        Check.faultyTown(1, "begin 0999^9;");
        Check.rightTown(STREET + "9999;", 3);
        Check.faultyTown(1, STREET + "9999^9;");
        Check.faultyTown(1, STREET + "1000^0;");
        Check.rightTown(TWO + "street s from a to b takes 0001 round 0048 shift 0047 wide 0001;", 3);
        Check.faultyTown(1, TWO + "street s from a to b takes 0000^1 round 1");
        Check.faultyTown(1, TWO + "street s from a to b takes 1 round 0004^8 shift");
        Check.faultyTown(1, TWO + "street s from a to b takes 1 round 48 shift 0004^7 wide");
        Check.faultyTown(1, TWO + "walker w broad 0009^9 at a to b;");
        Check.rightTown(TWO + "walker w broad 0099 at a to b;", 3);
    }

    /** Whatever whole words and numbers of a text come first, it ends too soon at its length. */
    private static void prefixes(String ahead, String statement) {
        String[] parts = statement.split(" ");
        StringBuilder b = new StringBuilder(ahead);
        for (int k = 0; k < parts.length; k++) {
            b.append(b.length() == ahead.length() ? "" : " ").append(parts[k]);
            if (k < parts.length - 1) {
                Check.faultyTown(1, b + "^");
                Check.faultyTown(1, b + " \n^");
            }
        }
        BreathTown x = new BreathTown();
        Check.due("the whole of " + b, Check.town(x, b.toString()) > 0, true);
    }

    private static void endsTooSoon() {
        Check.stands(5, "at the text's length, if it ends too soon);");
        prefixes("", "place c ;");
        prefixes(TWO, "street s from a to b takes 1 round 7 shift 2 wide min ( tide , 3 ) * ( 4 - day ) ;");
        prefixes(TWO, "walker w broad 5 at b to a ;");
        prefixes(" \n", "begin 12 ;");
        Check.rightTown("begin 12;", 1);
        Check.rightTown("begin 12; \n", 1);
        Check.faultyTown(1, "begin 12; place^");
    }

    private static void impossible() {
        Check.stands(5, "2 a number that can't be, at it;");
        Check.faultyTown(2, TWO + "street s from a to b takes  ^0");
        Check.rightTown(TWO + "street s from a to b takes  1 round 1 shift 0 wide 0;", 3);
        Check.faultyTown(2, TWO + "street s from a to b takes\n^0005 round");
        Check.faultyTown(2, TWO + "street s from a to b takes 4 round ^0");
        Check.faultyTown(2, TWO + "street s from a to b takes 4 round ^0049");
        Check.faultyTown(2, TWO + "street s from a to b takes 4 round 48 shift ^48");
        Check.faultyTown(2, TWO + "street s from a to b takes 4 round 48 shift ^9999");
        Check.faultyTown(2, TWO + "walker w broad ^0");
        Check.faultyTown(2, TWO + "walker w broad ^100");
        Check.faultyTown(2, "begin ^1000");
        Check.faultyTown(2, "begin ^9999;");
        Check.rightTown("begin 0999;", 1);
    }

    private static void misnamed() {
        Check.stands(5, "3 a NAME to be given that is there already, one that is none of what is asked, the second PLACE that is the "
            + "first one again, at it;");
        Check.faultyTown(3, "place a; place  ^a;");
        Check.faultyTown(3, "place a;place \n^a");
        Check.rightTown("place a;place aa;", 2);
        Check.faultyTown(3, TWO + "street  ^b from a");
        Check.faultyTown(3, TWO + "walker  ^b broad");
        // none of what is asked: not there at all, a STREET, a WALKER
        String both = STREET + "3;" + WALKER;
        Check.faultyTown(3, both + "street t from ^c to");
        Check.faultyTown(3, both + "street t from ^s to");
        Check.faultyTown(3, both + "street t from ^t to");
        Check.faultyTown(3, both + "street t from ^w to");
        Check.faultyTown(3, both + "street t from a to  ^c");
        Check.faultyTown(3, both + "street t from a to ^s");
        Check.faultyTown(3, both + "walker v broad 1 at ^c to");
        Check.faultyTown(3, both + "walker v broad 1 at ^s to");
        Check.faultyTown(3, both + "walker v broad 1 at ^v to");
        Check.faultyTown(3, both + "walker v broad 1 at a to ^w");
        Check.faultyTown(3, both + "walker v broad 1 at a to ^hour");
        // the second PLACE again
        Check.faultyTown(3, both + "street t from a to ^a takes");
        Check.faultyTown(3, both + "walker v broad 1 at b to  ^b;");
        Check.rightTown(both + "walker v broad 1 at b to  a;", 5);
    }

    private static void seventhOpen() {
        Check.stands(5, "4 the 7th ( that is open at once, at it;");
        Check.rightTown(STREET + "(((((1)))));", 3);
        Check.rightTown(STREET + "((((((1))))));", 3);
        Check.faultyTown(4, STREET + "((((((^(1)))))));");
        Check.faultyTown(4, STREET + "( ( ( ( ( ( ^( 1");
        Check.faultyTown(4, STREET + "((((((^((((");
        Check.faultyTown(4, STREET + "((((((^(");
        Check.faultyTown(1, STREET + "((((((^");
        // those of min and max are open as well, in both of their SUMS
        Check.rightTown(STREET + "min(max(min(max(min(max(1,2),3),4),5),6),7);", 3);
        Check.faultyTown(4, STREET + "min(max(min(max(min(max(^(1),2),3),4),5),6),7);");
        Check.rightTown(STREET + "min(1,max(2,min(3,max(4,min(5,(6))))));", 3);
        Check.faultyTown(4, STREET + "min(1,max(2,min(3,max(4,min(5,(6+max^(7,8)))))));");
        Check.faultyTown(4, STREET + "min(1,max(2,min(3,max(4,min(5,max(6,^(7)))))));");
        Check.faultyTown(4, STREET + "((((((min  ^(1,2)");
        // at once: those that are closed count no more
        Check.rightTown(STREET + "((((((1))))))+((((((1))))))*((((((1))))));", 3);
        Check.rightTown(STREET + "(((((min(1,2)+(3)))-(((4))))));", 3);
        Check.faultyTown(4, STREET + "(((((min(1,2)+(3)))-(((^(4))))))));");
        Check.rightTown(STREET + "(1)+(1)+(1)+(1)+(1)+(1)+(1)+(1);", 3);
        // each STREET's by itself
        Check.rightTown(STREET + "((((((1))))));street t from a to b takes 1 round 7 shift 2 wide ((((((1))))));", 4);
    }

    private static void oneTooMany() {
        Check.stands(5, "5 one too many of a kind, a 71st STATEMENT (whatever stands there), at its first byte.");
        String street = " from a to b takes 1 round 1 shift 0 wide 1;";
        String places = EdgesOfText.many("place ", 9, ";");
        String streets = TWO + EdgesOfText.many("street ", 12, street);
        String walkers = TWO + EdgesOfText.many("walker ", 6, " broad 1 at a to b;");
        Check.rightTown(places, 9);
        Check.faultyTown(5, places + " \n^place z;");
        Check.faultyTown(5, places + "^place");
        Check.faultyTown(5, places + "^place place;");
        Check.faultyTown(5, places + "^place 7");
        Check.faultyTown(1, places + "^plac z;");
        Check.faultyTown(1, places + "^placez;");
        Check.rightTown(streets, 14);
        Check.faultyTown(5, streets + " ^street z" + street);
        Check.faultyTown(5, streets + "^street a");
        Check.rightTown(streets + "walker w broad 1 at a to b;place z;begin 1;", 17);
        Check.rightTown(walkers, 8);
        Check.faultyTown(5, walkers + " ^walker z broad 1 at a to b;");
        Check.faultyTown(5, walkers + "^walker;");
        Check.rightTown(walkers + "street z" + street + "place y;begin 1;", 11);
        // a 71st STATEMENT, whatever stands there; the 70th is one as all others
        String most = "begin 1;".repeat(70);
        Check.rightTown(most, 70);
        for (String there : new String[] {"begin 2;", "place a;", "x", ";", "(", "7", "\t", "\u00ff", "begin", "beginn", "begin 1000"}) {
            Check.faultyTown(5, most + "^" + there);
            Check.faultyTown(5, most + " \n^" + there);
        }
        String less = "begin 1;".repeat(69);
        Check.faultyTown(1, less + "^x");
        Check.faultyTown(1, less + "^;");
        Check.faultyTown(2, less + "begin ^1000");
        Check.faultyTown(1, less + "begin 1^");
        // all kinds together: 9 and 12 and 6 and 43 more
        String filled = places.replace("place k;", "place b;").replace("place j;", "place a;")
            + EdgesOfText.many("street s", 12, street) + EdgesOfText.many("walker w", 6, " broad 1 at a to b;");
        Check.rightTown(filled + "begin 1;".repeat(43), 70);
        Check.faultyTown(5, filled + "begin 1;".repeat(43) + "^begin 1;");
    }
}
