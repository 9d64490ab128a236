/** What every test shares: a tape written from texts, and a count of the answers that are not due. */
final class Check {
    static int wrong = 0;
    static int asked = 0;
    private static String sentence = "";

    private Check() {
    }

    /** From here on answers are due by these words of the document, which a wrong answer names. */
    static void stands(int promise, String words) {
        Document.quote(promise, words);
        sentence = "[promise " + promise + ": " + words + "] ";
    }

    static void due(String call, long got, long want) {
        asked++;
        if (got != want) {
            wrong++;
            if (wrong <= 60) {
                System.out.println(sentence + call + " answered " + got + ", due is " + want);
            }
        }
    }

    static void due(String call, boolean got, boolean want) {
        due(call, got ? 1 : 0, want ? 1 : 0);
    }

    /** Feeds bytes in pieces of twenty, and cuts the tape to them. */
    static void tape(BreathTown x, int... bytes) {
        int[] padded = java.util.Arrays.copyOf(bytes, (bytes.length + 19) / 20 * 20);
        for (int k = 0; k < padded.length; k += 20) {
            x.feed(four(padded, k), four(padded, k + 4), four(padded, k + 8), four(padded, k + 12), four(padded, k + 16));
        }
        x.end(bytes.length);
    }

    static void tape(BreathTown x, String text) {
        int[] bytes = new int[text.length()];
        for (int k = 0; k < bytes.length; k++) {
            bytes[k] = text.charAt(k) & 255;
        }
        tape(x, bytes);
    }

    private static int four(int[] row, int k) {
        return (row[k] & 255) << 24 | (row[k + 1] & 255) << 16 | (row[k + 2] & 255) << 8 | (row[k + 3] & 255);
    }

    static int town(BreathTown x, String text) {
        tape(x, text);
        return x.town();
    }

    static BreathTown townOf(String text) {
        BreathTown x = new BreathTown();
        if (town(x, text) < 0) {
            due("town of " + text + " with fault " + x.fault(0) + " at " + x.fault(1), -1, 0);
        }
        return x;
    }

    static long ask(BreathTown x, String text) {
        tape(x, text);
        return x.ask();
    }

    /** A text with a fault has it where the sign ^ stands, which is no part of the text. */
    static int markedPlace(String marked) {
        return marked.indexOf('^');
    }

    static String unmarked(String marked) {
        int place = markedPlace(marked);
        return marked.substring(0, place) + marked.substring(place + 1);
    }

    /** Such a text is no town: its fault, and where. */
    static void faultyTown(int kind, String marked) {
        BreathTown x = new BreathTown();
        due("town of " + marked, town(x, unmarked(marked)), BreathTown.NONE);
        due("fault(0) of " + marked, x.fault(0), kind);
        due("fault(1) of " + marked, x.fault(1), markedPlace(marked));
    }

    static void rightTown(String text, int statements) {
        BreathTown x = new BreathTown();
        due("town of " + text, town(x, text), statements);
        due("fault(0) of " + text, x.fault(0), 0);
        due("fault(1) of " + text, x.fault(1), BreathTown.NONE);
    }

    /** Such a text is no question: its fault, and where. */
    static void faultyQuestion(BreathTown x, int kind, String marked) {
        due("ask of " + marked, ask(x, unmarked(marked)), BreathTown.NOTHING);
        due("fault(0) of " + marked, x.fault(0), kind);
        due("fault(1) of " + marked, x.fault(1), markedPlace(marked));
    }

    static void rightQuestion(BreathTown x, String text, long answer) {
        due("ask of " + text, ask(x, text), answer);
        due("fault(0) of " + text, x.fault(0), 0);
        due("fault(1) of " + text, x.fault(1), BreathTown.NONE);
    }

    /** Ends the test: 1 if an answer was not due. */
    static void finish(String name) {
        System.out.println(name + ": " + asked + " answers, " + wrong + " not due");
        System.exit(wrong == 0 ? 0 : 1);
    }
}
