import java.util.ArrayList;
import java.util.List;
import java.util.Random;

/** Runs of calls by a seed, each answered by the program and by the model: all must be alike. */
final class ModelTest {
    private final Random random;
    private final Texts texts;
    private final BreathTown x = new BreathTown();
    private final Model m = new Model();
    private final List<String> calls = new ArrayList<>();
    private int left = 512;
    private static int wrong = 0;
    private static long compared = 0;

    private ModelTest(long seed) {
        random = new Random(seed);
        texts = new Texts(random);
    }

    public static void main(String[] args) {
        int runs = args.length > 0 ? Integer.parseInt(args[0]) : 400;
        long from = args.length > 1 ? Long.parseLong(args[1]) : 1;
        for (long seed = from; seed < from + runs && wrong < 5; seed++) {
            new ModelTest(seed).run(seed);
        }
        System.out.println("ModelTest: " + compared + " answers, " + wrong + " not due");
        System.exit(wrong == 0 ? 0 : 1);
    }

    private boolean same(String call, long got, long want) {
        calls.add(call + " -> " + want);
        compared++;
        left--;
        if (got != want) {
            wrong++;
            System.out.println(call + " answered " + got + ", the model " + want + "; ahead of it:");
            for (String c : calls.subList(Math.max(0, calls.size() - 40), calls.size())) {
                System.out.println("   " + c);
            }
        }
        return got == want;
    }

    private boolean same(String call, boolean got, boolean want) {
        return same(call, got ? 1 : 0, want ? 1 : 0);
    }

    private void run(long seed) {
        int before = wrong;
        while (left > 90 && wrong == before) {
            if (calls.isEmpty() || random.nextInt(60) == 0) {
                tape(texts.town());
                same("town", x.town(), m.town());
                faults();
            }
            one();
        }
        if (wrong != before) {
            System.out.println("in the run of seed " + seed);
        }
    }

    private void faults() {
        same("fault(0)", x.fault(0), m.fault(0));
        same("fault(1)", x.fault(1), m.fault(1));
    }

    private void tape(String text) {
        int[] bytes = new int[text.length()];
        for (int k = 0; k < bytes.length; k++) {
            bytes[k] = text.charAt(k);
        }
        calls.add("text: " + text);
        tape(bytes);
    }

    private void tape(int[] bytes) {
        for (int k = 0; k < bytes.length; k += 20) {
            int[] five = new int[5];
            for (int j = 0; j < 20; j++) {
                five[j / 4] = five[j / 4] << 8 | (k + j < bytes.length ? bytes[k + j] : 0);
            }
            same("feed", x.feed(five[0], five[1], five[2], five[3], five[4]), m.feed(five));
        }
        same("end(" + bytes.length + ")", x.end(bytes.length), m.end(bytes.length));
    }

    private int any(int least, int most) {
        int turn = random.nextInt(60);
        if (turn == 0) {
            int[] far = {Integer.MIN_VALUE, Integer.MAX_VALUE, -1, most + 1, least - 1, 1 << 30, 100, -100};
            return far[random.nextInt(far.length)];
        }
        return turn == 1 ? most : turn == 2 ? least : least + random.nextInt(most - least + 1);
    }

    private int street() {
        return any(0, Math.max(0, m.town.streets.size() - 1));
    }

    private int walker() {
        return any(0, Math.max(0, m.town.walkers.size() - 1));
    }

    private int hour() {
        return random.nextInt(3) == 0 ? any(0, 99999) : any(m.now.hour, m.now.hour + 60);
    }

    private int broad() {
        return random.nextInt(3) == 0 ? any(1, 99) : any(1, 12);
    }

    private void one() {
        int turn = random.nextInt(100);
        if (turn < 14) {
            acts();
        } else if (turn < 30) {
            widths();
        } else if (turn < 62) {
            ways();
        } else if (turn < 72) {
            whose();
        } else if (turn < 82) {
            tape(texts.question());
            same("ask", x.ask(), m.ask());
            faults();
        } else if (turn < 88) {
            images();
        } else {
            looks();
        }
    }

    private void acts() {
        int turn = random.nextInt(12);
        int w = walker();
        int s = street();
        int n = random.nextInt(6) == 0 ? any(1, 500) : any(1, 30);
        if (turn < 3) {
            same("go(" + n + ")", x.go(n), m.go(n));
        } else if (turn < 6) {
            same("send(" + w + ")", x.send(w), m.send(w));
        } else if (turn < 8) {
            int h = any(1, 99);
            same("hold(" + s + ", " + h + ")", x.hold(s, h), m.hold(s, h));
        } else if (turn < 9) {
            int d = any(1, 30);
            same("days(" + d + ")", x.days(d), m.days(d));
        } else if (turn < 11) {
            same("undo()", x.undo(), m.undo());
        } else {
            int seed = any(0, Integer.MAX_VALUE - 1);
            same("seed(" + seed + ")", x.seed(seed), m.seed(seed));
        }
        if (random.nextInt(40) == 0) {
            for (int k = 0; k < 23; k++) {
                same("go(1)", x.go(1), m.go(1));
            }
            for (int k = 0; k < 21; k++) {
                same("undo()", x.undo(), m.undo());
            }
        }
    }

    private void widths() {
        int s = street();
        int b = broad();
        int h = hour();
        switch (random.nextInt(5)) {
            case 0: same("width(" + s + ", " + h + ")", x.width(s, h), m.width(s, h)); break;
            case 1: same("passes(" + s + ", " + b + ", " + h + ")", x.passes(s, b, h), m.passes(s, b, h)); break;
            case 2: same("next(" + s + ", " + b + ", " + h + ")", x.next(s, b, h), m.next(s, b, h)); break;
            case 3:
                int n = any(1, 1000);
                same("often(" + s + ", " + b + ", " + h + ", " + n + ")", x.often(s, b, h, n), m.often(s, b, h, n));
                break;
            default:
                int bits = any(1, (1 << m.town.streets.size()) + 1);
                same("wide(" + bits + ", " + b + ")", x.wide(bits, b), m.wide(bits, b));
                break;
        }
    }

    private void ways() {
        int w = walker();
        int turn = random.nextInt(40);
        if (turn < 12) {
            int k = random.nextInt(2) == 0 ? any(-1, 5) : random.nextInt(2) == 0 ? any(98, 106) : any(18, 21);
            same("way(" + w + ", " + k + ")", x.way(w, k), m.way(w, k));
        } else if (turn < 20) {
            int p = any(0, 8);
            same("arrival(" + w + ", " + p + ")", x.arrival(w, p), m.arrival(w, p));
        } else if (turn < 26) {
            int what = any(0, 1);
            same("stuck(" + w + ", " + what + ")", x.stuck(w, what), m.stuck(w, what));
        } else if (turn < 30) {
            same("needed(" + w + ")", x.needed(w), m.needed(w));
        } else if (turn < 36) {
            int n = random.nextInt(2) == 0 ? any(0, 48) : any(0, 5);
            same("parade(" + w + ", " + n + ")", x.parade(w, n), m.parade(w, n));
        } else if (turn < 39) {
            int n = random.nextInt(8) == 0 ? any(1, 4) : any(1, 3);
            int k = random.nextBoolean() ? any(-1, 4) : any(9, 14);
            same("rows(" + n + ", " + k + ")", x.rows(n, k), m.rows(n, k));
        } else {
            int b = random.nextInt(4) == 0 ? broad() : 1 + random.nextInt(4);
            int within = random.nextInt(8) == 0 ? any(0, 400) : any(0, 40);
            int k = any(-1, 3);
            same("doctors(" + b + ", " + within + ", " + k + ")", x.doctors(b, within, k), m.doctors(b, within, k));
        }
    }

    /** Rows of widths as some shift would have made them, at times spoilt. */
    private void whose() {
        int rows = random.nextInt(12) == 0 ? any(0, 22) : 1 + random.nextInt(4);
        if (random.nextInt(3) == 0 && rows >= 0 && rows < 30) {
            int[] bytes = new int[4 * rows + (random.nextInt(20) == 0 ? 1 : 0)];
            int shift = random.nextInt(48);
            for (int k = 0; k < rows; k++) {
                int s = street() & 255;
                int h = random.nextInt(30) == 0 ? 65535 - random.nextInt(9) : random.nextInt(2000);
                bytes[4 * k] = s;
                bytes[4 * k + 1] = h >> 8;
                bytes[4 * k + 2] = h & 255;
                bytes[4 * k + 3] = m.hasStreet(s) ? m.widthWith(s, shift % m.town.streets.get(s).round, h) : 3;
                if (random.nextInt(20) == 0) {
                    bytes[4 * k + 3] = random.nextInt(104);
                }
            }
            tape(bytes);
            same("see()", x.see(), m.see());
        }
        int s = street();
        int k = any(-1, 12);
        int what = any(0, 1);
        same("shifts(" + s + ", " + k + ")", x.shifts(s, k), m.shifts(s, k));
        same("telling(" + s + ", " + what + ")", x.telling(s, what), m.telling(s, what));
    }

    private void images() {
        if (random.nextBoolean()) {
            same("image()", x.image(), m.image());
        }
        List<Integer> image = new ArrayList<>(m.picture);
        int turn = random.nextInt(4);
        if (turn == 0 || image.isEmpty()) {
            int k = any(0, 38);
            same("octet(" + k + ")", x.octet(k), m.octet(k));
            return;
        }
        if (turn == 1) {
            int at = random.nextInt(image.size());
            image.set(at, random.nextBoolean() ? random.nextInt(256) : image.get(at) ^ 1);
        }
        if (turn == 1 && random.nextInt(8) == 0) {
            image.add(7);
        }
        if (random.nextInt(4) != 0) {
            image.set(image.size() - 1, Model.check(image.subList(0, image.size() - 1)));
        }
        tape(image.stream().mapToInt(b -> b).toArray());
        same("on()", x.on(), m.on());
    }

    private void looks() {
        int what = any(0, 8);
        same("has(" + what + ")", x.has(what), m.has(what));
        int kind = any(0, 2);
        int which = any(0, 11);
        int k = any(0, 5);
        same("letter(" + kind + ", " + which + ", " + k + ")", x.letter(kind, which, k), m.letter(kind, which, k));
        int s = street();
        int w = walker();
        int part = any(0, 6);
        same("street(" + s + ", " + part + ")", x.street(s, part), m.street(s, part));
        part = any(0, 3);
        same("walker(" + w + ", " + part + ")", x.walker(w, part), m.walker(w, part));
        part = any(0, 5);
        same("status(" + part + ")", x.status(part), m.status(part));
        int f = any(0, 1);
        same("fault(" + f + ")", x.fault(f), m.fault(f));
        if (random.nextInt(10) == 0) {
            int n = any(0, 30);
            same("end(" + n + ")", x.end(n), m.end(n));
        }
    }
}
