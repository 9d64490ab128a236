/** Promise 1. */
final class NewObjectTest {
    public static void main(String[] args) {
        BreathTown x = new BreathTown();
        for (int what = 0; what <= 8; what++) {
            Check.due("has(" + what + ")", x.has(what), 0);
        }
        Check.due("fault(0)", x.fault(0), 0);
        Check.due("fault(1)", x.fault(1), BreathTown.NONE);
        Check.finish("NewObjectTest");
    }
}
