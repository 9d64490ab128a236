/** The sentences of the promises 1 to 3 (a new object, feed, end), and of the constants. */
final class EdgesOfTape {
    private static final int NONE = BreathTown.NONE;
    private static final int BLANKS = 0x20202020;

    private EdgesOfTape() {
    }

    static void all() {
        noPlacesNobody();
        atMost512Calls();
        noneIsRefused();
        nothingIsTold();
        twentyBytesBehind();
        highestFirst();
        moreThan1600();
        all1600AreRead();
        firstBytesAlone();
        notSoMany();
    }

    private static void noPlacesNobody() {
        Check.stands(1, "No PLACES, nobody.");
        BreathTown x = new BreathTown();
        for (int what = 0; what <= 8; what++) {
            Check.due("new: has(" + what + ")", x.has(what), 0);
        }
        for (int kind = 0; kind <= 2; kind++) {
            Check.due("new: letter(" + kind + ", 0, 0)", x.letter(kind, 0, 0), NONE);
        }
        Check.due("new: street(0, 0)", x.street(0, 0), NONE);
        Check.due("new: walker(0, 0)", x.walker(0, 0), NONE);
        Check.due("new: arrival(0, 0)", x.arrival(0, 0), NONE);
        Check.due("new: rows(1, NONE)", x.rows(1, NONE), NONE);
        Check.due("new: doctors(1, 400, NONE)", x.doctors(1, 400, NONE), NONE);
        Check.due("new: octet(0)", x.octet(0), NONE);
        for (int what = 0; what <= 5; what++) {
            Check.due("new: status(" + what + ")", x.status(what), 0);
        }
        // another object's town is none of this one's
        BreathTown y = Check.townOf("place a;");
        Check.due("another: has(0)", y.has(0), 1);
        Check.due("new still: has(0)", x.has(0), 0);
    }

    private static void atMost512Calls() {
        Check.stands(1, "An object is used for at most 512 calls after it has been made");
        BreathTown x = new BreathTown();
        for (int k = 1; k <= 510; k++) {
            Check.due("call " + k + ": go(1)", x.go(1), k);
        }
        Check.due("call 511: undo()", x.undo(), true);
        Check.due("call 512: has(3)", x.has(3), 509);
        BreathTown y = new BreathTown();
        for (int k = 1; k <= 510; k += 3) {
            y.feed(0x706c6163, 0x6520613b, BLANKS, BLANKS, BLANKS);
            Check.due("call " + (k + 1) + ": town()", y.town(), 1);
            Check.due("call " + (k + 2) + ": has(0)", y.has(0), 1);
        }
        Check.due("call 511: letter(0, 0, 0)", y.letter(0, 0, 0), 1);
        Check.due("call 512: letter(0, 1, 0)", y.letter(0, 1, 0), NONE);
    }

    private static void noneIsRefused() {
        Check.stands(6, "`NONE = -1`: There is none; it is refused.");
        BreathTown x = new BreathTown();
        Check.due("NONE", NONE, -1);
        Check.due("what there is none of", x.has(9), -1);
        Check.due("what is refused", x.go(0), -1);
    }

    private static void nothingIsTold() {
        Check.stands(31, "`NOTHING = -1000000000000000L`: Told where a number below 0 may be one.");
        BreathTown x = new BreathTown();
        Check.due("NOTHING", BreathTown.NOTHING, -1000000000000000L);
        Check.due("a question that is none", Check.ask(x, "least"), -1000000000000000L);
        Check.due("a number below 0", Check.ask(x, "least 0-1"), -1);
    }

    private static void twentyBytesBehind() {
        Check.stands(2, "Twenty bytes come behind those on the tape");
        BreathTown x = new BreathTown();
        Check.due("feed onto none", x.feed(0x706c6163, 0x6520613b, BLANKS, BLANKS, BLANKS), 20);
        Check.due("feed onto 20", x.feed(0x706c6163, 0x6520623b, BLANKS, BLANKS, BLANKS), 40);
        Check.due("end(29)", x.end(29), true);
        Check.due("feed onto 29", x.feed(0x613b0a0a, BLANKS, BLANKS, BLANKS, BLANKS), 49);
        // "place a;" with blanks to 20, then "place b;" with a blank to 29, then "a;" at 29
        Check.due("town of what stands there", x.town(), NONE);
        Check.due("its fault", x.fault(0), 1);
        Check.due("its place", x.fault(1), 29);
        Check.due("feed onto none again", x.feed(BLANKS, BLANKS, BLANKS, BLANKS, BLANKS), 20);
        Check.due("town of blanks", x.town(), 0);
    }

    private static void highestFirst() {
        Check.stands(2, "of each number the highest first: how many there are;");
        BreathTown x = new BreathTown();
        // "plac" "e ab" "cdef" ";pla" "ce g" and ";"
        Check.due("feed", x.feed(0x706c6163, 0x65206162, 0x63646566, 0x3b706c61, 0x63652067), 20);
        Check.due("feed", x.feed(0x3b202020, BLANKS, BLANKS, BLANKS, BLANKS), 40);
        Check.due("town", x.town(), 2);
        for (int k = 0; k < 6; k++) {
            Check.due("letter(0, 0, " + k + ")", x.letter(0, 0, k), k + 1);
        }
        Check.due("letter(0, 1, 0)", x.letter(0, 1, 0), 7);
        // bytes from 128 on, in images: of hour 255 and the shift 0, its last byte is 146 by 163, 238, 216
        Check.town(x, "place a;place b;street s from a to b takes 1 round 48 shift 0 wide 1;");
        Check.due("feed of 0 255 0 146", x.feed(0x00ff0092, -1, -1, -1, -1), 20);
        x.end(4);
        Check.due("on", x.on(), true);
        Check.due("has(3)", x.has(3), 255);
        // of hour 0 and the shift 5, it is 139 by 163, 238, 212
        Check.due("feed of 0 0 5 139", x.feed(0x0000058b, 0, 0, 0, 0), 20);
        x.end(4);
        Check.due("on", x.on(), true);
        Check.due("street(0, 4)", x.street(0, 4), 5);
        // of two shifts and a walker, it is 192 by 163, 238, 212, 134, 151, 202, 105, 64: the highest of a number below 0
        Check.town(x, "place a;place b;street s from a to b takes 1 round 48 shift 0 wide 1;"
            + "street t from a to b takes 1 round 48 shift 0 wide 1;walker w broad 1 at a to b;");
        Check.due("feed of 0 0 0 0 0 1 0 0 192", x.feed(0, 0x00010000, 0xc0000000, Integer.MAX_VALUE, Integer.MIN_VALUE), 20);
        x.end(9);
        Check.due("on", x.on(), true);
    }

    private static BreathTown full() {
        BreathTown x = new BreathTown();
        for (int k = 1; k <= 80; k++) {
            Check.due("feed " + k, x.feed(BLANKS, BLANKS, BLANKS, BLANKS, BLANKS), 20 * k);
        }
        return x;
    }

    private static void moreThan1600() {
        Check.stands(2, "NONE, refused (0), if there would be more than 1600.");
        BreathTown x = full();
        Check.due("nothing refused at 1600", x.status(0), 0);
        Check.due("feed onto 1600", x.feed(1, 2, 3, 4, 5), NONE);
        Check.due("status(0)", x.status(0), 1);
        Check.due("the tape stays: end(1601)", x.end(1601), false);
        Check.due("the tape stays: end(1600)", x.end(1600), true);
        Check.due("end(1581)", x.end(1581), true);
        Check.due("feed onto 1581", x.feed(1, 2, 3, 4, 5), NONE);
        Check.due("status(0)", x.status(0), 3);
        Check.due("the tape stays: end(1582)", x.end(1582), false);
        Check.due("end(1580)", x.end(1580), true);
        Check.due("feed onto 1580", x.feed(BLANKS, BLANKS, BLANKS, BLANKS, BLANKS), 1600);
        Check.due("feed onto 1600", x.feed(BLANKS, BLANKS, BLANKS, BLANKS, BLANKS), NONE);
        Check.due("end(1579)", x.end(1579), true);
        Check.due("feed onto 1579", x.feed(BLANKS, BLANKS, BLANKS, BLANKS, BLANKS), 1599);
        Check.due("status(0)", x.status(0), 5);
        // what was refused has not come: all that stands there is blank
        Check.due("town of blanks", x.town(), 0);
    }

    private static void all1600AreRead() {
        Check.stands(4, "The tape (it goes) is THE TOWN: how many STATEMENTS;");
        BreathTown x = full();
        x.end(1592);
        x.end(1580);
        // 12 blanks, then "place z;" as the last bytes
        Check.due("feed onto 1580", x.feed(BLANKS, BLANKS, BLANKS, 0x706c6163, 0x65207a3b), 1600);
        Check.due("town of 1600 bytes", x.town(), 1);
        Check.due("letter(0, 0, 0)", x.letter(0, 0, 0), 26);
        x = full();
        x.end(1580);
        x.feed(BLANKS, BLANKS, BLANKS, 0x706c6163, 0x65207a20);
        Check.due("town without its last sign", x.town(), NONE);
        Check.due("fault(0)", x.fault(0), 1);
        Check.due("fault(1)", x.fault(1), 1600);
        x = full();
        x.end(1580);
        x.feed(BLANKS, BLANKS, BLANKS, 0x706c6163, 0x65207a3b);
        x.end(1599);
        Check.due("town of 1599 bytes", x.town(), NONE);
        Check.due("fault(1)", x.fault(1), 1599);
        // a sum that takes all bytes: 99, less 1 763 times, less 9
        StringBuilder b = new StringBuilder("place a;place b;street s from a to b takes 1 round 48 shift 00 wide 99-");
        Check.due("the text's beginning", b.length(), 71);
        for (int k = 0; k < 764; k++) {
            b.append(k < 763 ? "1-" : "9;");
        }
        b.insert(0, ' ');
        Check.due("the text's length", b.length(), 1600);
        x = new BreathTown();
        Check.due("town with a long sum", Check.town(x, b.toString()), 3);
        Check.due("its width", x.width(0, 0), 0);
        b.setLength(0);
        b.append(" place a;place b;street s from a to b takes 1 round 48 shift 00 wide 99-");
        for (int k = 0; k < 764; k++) {
            b.append(k == 763 ? "9;" : k % 2 == 0 ? "1+" : "1-");
        }
        Check.due("the text's length", b.length(), 1600);
        Check.due("town with a long sum", Check.town(x, b.toString()), 3);
        // 99, of the 763 ones the first, third, .. taken off (382), the others added (381), then 9 added
        Check.due("its width", x.width(0, 0), 99);
        b.setCharAt(1598, '0');
        Check.due("town with a long sum", Check.town(x, b.toString()), 3);
        Check.due("its width", x.width(0, 0), 98);
    }

    private static void firstBytesAlone() {
        Check.stands(3, "The tape has its first n bytes alone: true;");
        BreathTown x = new BreathTown();
        int[][] ends = {{16, 2}, {8, 1}, {0, 0}};
        for (int[] e : ends) {
            Check.due("feed", x.feed(0x706c6163, 0x6520613b, 0x706c6163, 0x6520623b, BLANKS), 20);
            Check.due("end(" + e[0] + ")", x.end(e[0]), true);
            Check.due("town of " + e[0] + " bytes", x.town(), e[1]);
        }
        x.feed(0x706c6163, 0x6520613b, 0x706c6163, 0x6520623b, BLANKS);
        Check.due("end(15)", x.end(15), true);
        Check.due("town of 15 bytes", x.town(), NONE);
        Check.due("fault(1)", x.fault(1), 15);
        x.feed(0x706c6163, 0x6520613b, 0x706c6163, 0x6520623b, BLANKS);
        Check.due("end(8)", x.end(8), true);
        Check.due("feed onto 8", x.feed(BLANKS, BLANKS, BLANKS, BLANKS, BLANKS), 28);
        Check.due("the bytes behind have gone", x.town(), 1);
    }

    private static void notSoMany() {
        Check.stands(3, "false, refused (0), if it has not so many, or n is below 0.");
        BreathTown x = new BreathTown();
        Check.due("end(0) of none", x.end(0), true);
        Check.due("end(1) of none", x.end(1), false);
        Check.due("end(-1) of none", x.end(-1), false);
        Check.due("status(0)", x.status(0), 2);
        x.feed(BLANKS, BLANKS, BLANKS, BLANKS, BLANKS);
        Check.due("end(21)", x.end(21), false);
        Check.due("end(20)", x.end(20), true);
        Check.due("end(-1)", x.end(-1), false);
        Check.due("end(most)", x.end(Integer.MAX_VALUE), false);
        Check.due("end(least)", x.end(Integer.MIN_VALUE), false);
        Check.due("status(0)", x.status(0), 6);
        Check.due("the tape stays", x.end(20), true);
        Check.due("end(19)", x.end(19), true);
        Check.due("end(20) of 19", x.end(20), false);
        Check.due("end(19) of 19", x.end(19), true);
        Check.due("end(0)", x.end(0), true);
        Check.due("end(1) of 0", x.end(1), false);
        Check.due("status(0)", x.status(0), 8);
    }
}
