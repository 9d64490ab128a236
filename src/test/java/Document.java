import java.nio.file.Files;
import java.nio.file.Path;
import java.util.ArrayList;
import java.util.List;
import java.util.Map;
import java.util.TreeMap;

/**
 * ../shared/DOC.md as one line of text, and which of its words have been quoted by a test.
 * A quotation is looked for in its promise first, then in all that stands ahead of the promises.
 */
final class Document {
    private static final String TEXT = read();
    private static final boolean[] QUOTED = new boolean[TEXT.length()];
    private static final Map<Integer, int[]> PROMISES = promises();
    private static final List<String> UNKNOWN = new ArrayList<>();

    private Document() {
    }

    /** Nothing, where there is no document: then quotations can't be looked at, and each is taken as it is. */
    private static String read() {
        if (!Files.exists(Path.of("../shared/DOC.md"))) {
            System.out.println("no ../shared/DOC.md: quotations are not looked at");
            return "";
        }
        try {
            return Files.readString(Path.of("../shared/DOC.md")).replaceAll("```\\w*", " ").replaceAll("\\s+", " ");
        } catch (java.io.IOException e) {
            throw new IllegalStateException("../shared/DOC.md can't be read", e);
        }
    }

    /** Where each promise's words begin (behind its heading and its call) and end. */
    private static Map<Integer, int[]> promises() {
        Map<Integer, int[]> found = new TreeMap<>();
        String[] heads = TEXT.split("## Promise ");
        int at = heads[0].length();
        for (int k = 1; k < heads.length; k++) {
            at += "## Promise ".length();
            int number = Integer.parseInt(heads[k].substring(0, heads[k].indexOf(':')));
            int begin = heads[k].indexOf("`: ") + 3;
            int end = heads[k].contains("## Not promised") ? heads[k].indexOf("## Not promised") : heads[k].length();
            found.put(number, new int[] {at + begin, at + end});
            at += heads[k].length();
        }
        return found;
    }

    static void quote(int promise, String words) {
        if (TEXT.isEmpty()) {
            return;
        }
        int[] section = PROMISES.getOrDefault(promise, new int[] {0, 0});
        int at = TEXT.indexOf(words, section[0]);
        if (at < 0 || at + words.length() > section[1]) {
            int terms = TEXT.indexOf("## Promise ");
            at = TEXT.indexOf(words);
            if (at + words.length() > terms) {
                at = -1;
            }
        }
        if (at < 0 || section[1] == 0) {
            UNKNOWN.add("promise " + promise + " does not say: " + words);
            return;
        }
        for (int k = at; k < at + words.length(); k++) {
            QUOTED[k] = true;
        }
    }

    /** What was quoted wrongly, and the words of terms, constants and promises that no test has quoted. */
    static List<String> unquoted() {
        List<String> left = new ArrayList<>(UNKNOWN);
        if (TEXT.isEmpty()) {
            return left;
        }
        int constants = TEXT.indexOf("The constants: ");
        int interfaceWords = TEXT.indexOf("Ahead of the calls ");
        gather(left, "terms", TEXT.indexOf("## Terms ") + 9, constants);
        gather(left, "constants", constants + 15, interfaceWords);
        for (int promise = 1; promise <= 35; promise++) {
            int[] section = PROMISES.get(promise);
            gather(left, "promise " + promise, section[0], section[1]);
        }
        return left;
    }

    private static void gather(List<String> left, String where, int begin, int end) {
        StringBuilder b = new StringBuilder();
        for (int k = begin; k <= end; k++) {
            if (k < end && !QUOTED[k]) {
                b.append(TEXT.charAt(k));
                continue;
            }
            if (b.toString().matches(".*[A-Za-z0-9].*")) {
                left.add(where + " not quoted: " + b);
            }
            b.setLength(0);
        }
    }
}
