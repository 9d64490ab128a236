/** Promises 10 to 14: width, passes, next, often, wide. */
final class WidthsTest {
    private static final int NONE = BreathTown.NONE;
    private static final String TWO = "place a;place b;";

    public static void main(String[] args) {
        sums();
        width();
        passesAndNext();
        often();
        wide();
        Check.finish("WidthsTest");
    }

    private static void sum(String sum, int want) {
        BreathTown x = Check.townOf(TWO + "street s from a to b takes 1 round 7 shift 2 wide " + sum + ";");
        // hour 53: tide 6, clock 5, day 2
        Check.due(sum, x.width(0, 53), want);
    }

    private static void sums() {
        sum("tide", 6);
        sum("round", 7);
        sum("clock", 5);
        sum("day", 2);
        sum("2+3*4", 14);
        sum("(2+3)*4", 20);
        sum("10-3-2", 5);
        sum("24/4/2", 3);
        sum("7/2*2", 6);
        sum("min(9,4)+max(9,4)", 13);
        sum("(0-7)/2+10", 6);
        sum("7/(0-2)+10", 6);
        sum("(0-7)/(0-2)", 3);
        sum("7/0+3", 3);
        sum("0-5", 0);
        sum("100", 99);
        sum("99", 99);
        sum("9999*9999/1000-990", 10);
        sum("(0-9999)*9999/1000+1005", 5);
        sum("(9999*9999+9999*9999)/1000-995", 5);
        sum("(0-9999*9999-9999)/1000+1005", 5);
        sum("9999+1-9990", 10);
    }

    /** Widths of s: 3 6 9 0 and so on; of t: its clock; of u: 9 from hour 408 on. */
    private static BreathTown three() {
        return Check.townOf(TWO + "street s from a to b takes 2 round 4 shift 1 wide tide*3;"
            + "street t from b to a takes 1 round 1 shift 0 wide clock;"
            + "street u from a to b takes 1 round 1 shift 0 wide max(day-16,0)*9;");
    }

    private static void width() {
        BreathTown x = three();
        int[] first = {3, 6, 9, 0, 3, 6, 9, 0};
        for (int hour = 0; hour < first.length; hour++) {
            Check.due("width(0, " + hour + ")", x.width(0, hour), first[hour]);
        }
        Check.due("width(1, 47)", x.width(1, 47), 23);
        Check.due("width(2, 407)", x.width(2, 407), 0);
        Check.due("width(2, 408)", x.width(2, 408), 9);
        Check.due("width(2, 99999)", x.width(2, 99999), 99);
        Check.due("width(1, 99999)", x.width(1, 99999), 15);
        Check.due("width(1, 100000)", x.width(1, 100000), NONE);
        Check.due("width(1, -1)", x.width(1, -1), NONE);
        Check.due("width(3, 0)", x.width(3, 0), NONE);
        Check.due("width(-1, 0)", x.width(-1, 0), NONE);
        x.go(7);
        Check.due("width(0, 0) later", x.width(0, 0), 3);
        x.hold(0, 1);
        Check.due("width(0, 0) held", x.width(0, 0), 0);
        Check.due("width(0, 1) held", x.width(0, 1), 3);
        x.undo();
        Check.due("width(0, 1) undone", x.width(0, 1), 6);
        Check.town(x, TWO + "street s from a to b takes 2 round 4 shift 1 wide tide*2;");
        Check.due("width(0, 1) of another town", x.width(0, 1), 4);
    }

    private static void passesAndNext() {
        BreathTown x = three();
        int[][] passes = {{0, 3, 0, 1}, {0, 4, 0, 0}, {0, 3, 1, 1}, {0, 6, 1, 1}, {0, 7, 1, 0}, {0, 1, 2, 0}, {0, 1, 3, 0},
            {1, 23, 23, 1}, {1, 1, 24, 0}, {0, 1, 99996, 1}, {0, 1, 99999, 0}, {0, 99, 0, 0},
            {0, 0, 0, NONE}, {0, 100, 0, NONE}, {0, -1, 0, NONE}, {0, 1, -1, NONE}, {0, 1, 100000, NONE}, {3, 1, 0, NONE},
            {-1, 1, 0, NONE}};
        for (int[] p : passes) {
            Check.due("passes(" + p[0] + ", " + p[1] + ", " + p[2] + ")", x.passes(p[0], p[1], p[2]), p[3]);
        }
        int[][] next = {{0, 6, 0, 1}, {0, 6, 1, 1}, {0, 6, 2, 5}, {0, 3, 2, 4}, {0, 9, 0, NONE}, {1, 20, 21, 21}, {1, 20, 24, 44},
            {2, 9, 8, 408}, {2, 9, 7, NONE}, {2, 9, 408, 408}, {0, 3, 99999, 100000}, {0, 0, 0, NONE}, {0, 100, 0, NONE},
            {0, 1, -1, NONE}, {0, 1, 100000, NONE}, {3, 1, 0, NONE}, {-1, 1, 0, NONE}};
        for (int[] p : next) {
            Check.due("next(" + p[0] + ", " + p[1] + ", " + p[2] + ")", x.next(p[0], p[1], p[2]), p[3]);
        }
    }

    private static void often() {
        BreathTown x = three();
        int[][] often = {{0, 6, 0, 8, 2}, {0, 3, 0, 8, 4}, {0, 3, 0, 2, 2}, {0, 3, 2, 2, 0}, {0, 6, 1, 1, 1}, {0, 9, 0, 1000, 0},
            {1, 1, 0, 24, 23}, {1, 12, 0, 1000, 496}, {1, 1, 99999, 1000, 958}, {0, 6, 0, 0, NONE},
            {0, 6, 0, 1001, NONE}, {0, 0, 0, 1, NONE}, {0, 100, 0, 1, NONE}, {0, 1, -1, 1, NONE}, {0, 1, 100000, 1, NONE},
            {3, 1, 0, 1, NONE}, {-1, 1, 0, 1, NONE}};
        for (int[] p : often) {
            Check.due("often(" + p[0] + ", " + p[1] + ", " + p[2] + ", " + p[3] + ")", x.often(p[0], p[1], p[2], p[3]), p[4]);
        }
    }

    private static void wide() {
        BreathTown x = three();
        int[][] wide = {{1, 6, 1}, {1, 9, 2}, {1, 10, NONE}, {2, 5, 5}, {3, 5, 5}, {3, 7, 10}, {4, 1, NONE}, {7, 1, NONE},
            {0, 1, NONE}, {8, 1, NONE}, {9, 1, NONE}, {-1, 1, NONE}, {1, 0, NONE}, {1, 100, NONE}, {Integer.MIN_VALUE, 1, NONE}};
        for (int[] p : wide) {
            Check.due("wide(" + p[0] + ", " + p[1] + ")", x.wide(p[0], p[1]), p[2]);
        }
        x.go(7);
        Check.due("wide(4, 9) from 7", x.wide(4, 9), NONE);
        Check.due("wide(3, 7) from 7", x.wide(3, 7), 10);
        x.go(1);
        Check.due("wide(4, 9) from 8", x.wide(4, 9), 408);
        Check.due("wide(1, 1) of nothing", new BreathTown().wide(1, 1), NONE);
    }
}
