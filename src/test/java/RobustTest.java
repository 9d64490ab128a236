import java.lang.reflect.InvocationTargetException;
import java.lang.reflect.Method;
import java.lang.reflect.Modifier;
import java.util.ArrayList;
import java.util.Comparator;
import java.util.List;
import java.util.Random;

/** No call ever throws or fails to end, for any arguments in any state: LANGUAGE.md, rule 7. */
final class RobustTest {
    private static final int[] EXTREMES = {Integer.MIN_VALUE, Integer.MIN_VALUE + 1, -1000000, -100, -2, -1, 0, 1, 2, 3, 4, 5, 6, 7, 8, 9, 10, 11,
        12, 13, 20, 23, 24, 47, 48, 49, 99, 100, 101, 111, 112, 400, 401, 500, 501, 999, 1000, 1001, 1600, 4095, 4096, 9999, 10000, 99999,
        100000, 1 << 20, 1 << 30, Integer.MAX_VALUE - 1, Integer.MAX_VALUE};
    private static final long MOST_MILLIS = 20000;
    private static final Random RANDOM = new Random(5);
    private static String call = "";

    public static void main(String[] args) throws Exception {
        long began = System.currentTimeMillis();
        List<Method> face = new ArrayList<>();
        for (Method m : BreathTown.class.getDeclaredMethods()) {
            if (Modifier.isPublic(m.getModifiers())) {
                face.add(m);
            }
        }
        face.sort(Comparator.comparing(Method::toString));
        Check.due("calls of the face", face.size(), 35 - 1);
        try {
            for (int state = 0; state < 6; state++) {
                eachExtreme(face, state);
                atRandom(face, state);
            }
            wildTexts();
        } catch (InvocationTargetException e) {
            System.out.println(call + " throws " + e.getCause());
            Check.due(call, 1, 0);
        }
        long took = System.currentTimeMillis() - began;
        Check.due("all calls together end in " + took + " ms", took < 10 * MOST_MILLIS, true);
        Check.finish("RobustTest");
    }

    /** As full a town as can be; its streets are wide now and then. */
    private static String fullTown(String wide) {
        StringBuilder b = new StringBuilder(EdgesOfText.many("place ", 9, ";"));
        for (int k = 0; k < 12; k++) {
            b.append("street s").append((char) ('a' + k)).append(" from ").append((char) ('c' + k % 9)).append(" to ")
                .append((char) ('c' + (k * 2 + 1) % 9 + (k % 9 == (k * 2 + 1) % 9 ? -1 : 0))).append(" takes ").append(k % 4 + 1)
                .append(" round ").append(48 - k).append(" shift 47 wide ").append(wide).append(';');
        }
        for (int k = 0; k < 6; k++) {
            b.append("walker w").append((char) ('a' + k)).append(" broad ").append(k * 9 + 1).append(" at ").append((char) ('c' + k))
                .append(" to ").append((char) ('k' - k % 3)).append(';');
        }
        return b.toString();
    }

    private static BreathTown inState(int state) {
        if (state == 0) {
            return new BreathTown();
        }
        BreathTown x = Check.townOf(state == 1 ? "place c;" : fullTown(state == 2 ? "0" : state == 3 ? "99" : "tide*(1+day/(clock-5))-9")
            + "begin 999;");
        if (state > 3) {
            for (int k = 0; k < 12; k++) {
                x.days(30);
            }
            for (int k = 0; k < 6; k++) {
                x.send(k);
            }
            x.go(state == 4 ? 360 : 300);
            Check.tape(x, 0, 1, 2, 3, 11, 255, 255, 99);
            x.see();
            x.image();
        }
        return x;
    }

    private static void ask(BreathTown x, Method m, Object[] args) throws Exception {
        call = m.getName() + java.util.Arrays.toString(args);
        long began = System.currentTimeMillis();
        m.invoke(x, args);
        Check.due(call + " ends soon", System.currentTimeMillis() - began < MOST_MILLIS, true);
    }

    /** Each argument at each extreme, the others as they could be. */
    private static void eachExtreme(List<Method> face, int state) throws Exception {
        for (Method m : face) {
            BreathTown x = inState(state);
            int calls = 0;
            int count = m.getParameterCount();
            for (int at = 0; at < Math.max(1, count); at++) {
                for (int extreme : EXTREMES) {
                    Object[] args = new Object[count];
                    for (int k = 0; k < count; k++) {
                        args[k] = k == at ? extreme : RANDOM.nextInt(3);
                    }
                    ask(x, m, args);
                    calls++;
                    if (calls % 300 == 0) {
                        x = inState(state);
                    }
                }
            }
        }
    }

    private static void atRandom(List<Method> face, int state) throws Exception {
        for (int run = 0; run < 20; run++) {
            BreathTown x = inState(state);
            for (int calls = 0; calls < 380; calls++) {
                Method m = face.get(RANDOM.nextInt(face.size()));
                Object[] args = new Object[m.getParameterCount()];
                for (int k = 0; k < args.length; k++) {
                    args[k] = RANDOM.nextInt(4) == 0 ? EXTREMES[RANDOM.nextInt(EXTREMES.length)] : RANDOM.nextInt(12) - 1;
                }
                ask(x, m, args);
            }
        }
    }

    /** Texts of one thing over and over again, up to the tape's end, and of bytes by chance. */
    private static void wildTexts() {
        String[] heads = {"", "most ", "first ", "place a;place b;street s from a to b takes 1 round 1 shift 0 wide "};
        String[] things = {"(", "[", "not ", "width ", "tide ", "passes ", "min(", "max(1,", "((((((1))))))+", "[[[[[[all]]]]]]or ", "all and ", "1+",
            "1*", "9999*", "1/0/", ";", " ", "\n", "a", "9", ")", "]", ",", "-", "<", "place a;", "begin 1;", "\u0000", "\u00ff"};
        for (String head : heads) {
            for (String thing : things) {
                for (int length : new int[] {1600, 1599, 40}) {
                    StringBuilder b = new StringBuilder(head);
                    while (b.length() < length) {
                        b.append(thing);
                    }
                    b.setLength(length);
                    tryText(b.toString());
                }
            }
        }
        for (int run = 0; run < 400; run++) {
            StringBuilder b = new StringBuilder(heads[run % 4]);
            int length = RANDOM.nextInt(1600 - b.length());
            while (b.length() < length) {
                b.append(run % 2 == 0 ? things[RANDOM.nextInt(things.length)] : "" + (char) RANDOM.nextInt(256));
            }
            b.setLength(Math.min(b.length(), 1600));
            tryText(b.toString());
        }
    }

    private static void tryText(String text) {
        call = "text " + text;
        BreathTown x = new BreathTown();
        int statements = Check.town(x, text);
        Check.due("town: a FAULT or none", x.fault(0) == 0, statements >= 0);
        Check.due("town: a place or none", x.fault(1) >= 0 && x.fault(1) <= text.length(), statements < 0);
        long answer = Check.ask(x, text);
        Check.due("ask: a FAULT or none", x.fault(0) == 0, answer != BreathTown.NOTHING);
        Check.due("ask: a place or none", x.fault(1) >= 0 && x.fault(1) <= text.length(), answer == BreathTown.NOTHING);
        Check.tape(x, text);
        Check.due("see", x.see(), BreathTown.NONE);
        Check.tape(x, text);
        Check.due("on", x.on(), false);
    }
}
