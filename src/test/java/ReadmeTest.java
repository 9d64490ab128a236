import java.lang.reflect.Method;
import java.nio.file.Files;
import java.nio.file.Path;
import java.util.regex.Matcher;
import java.util.regex.Pattern;

/** README.md's calls, one after the other on one object: each answers what stands behind it. */
final class ReadmeTest {
    private static final Pattern CALL = Pattern.compile("x\\.(\\w+)\\(([^)]*)\\); +// (-?\\d+|true|false)\\b.*");
    private static final Pattern TEXT = Pattern.compile("\"([^\"]*)\"");

    public static void main(String[] args) throws Exception {
        BreathTown x = new BreathTown();
        boolean isTape = false;
        StringBuilder text = new StringBuilder();
        int calls = 0;
        for (String line : Files.readAllLines(Path.of("README.md"))) {
            Matcher call = CALL.matcher(line);
            if (call.matches()) {
                look(x, call);
                calls++;
            } else if (line.startsWith("x.")) {
                Check.due(line + " tells no answer", 1, 0);
            }
            isTape |= line.startsWith("tape(x, ");
            if (isTape) {
                Matcher part = TEXT.matcher(line);
                while (part.find()) {
                    text.append(part.group(1));
                }
            }
            if (isTape && line.endsWith(";")) {
                Check.tape(x, text.toString());
                text.setLength(0);
                isTape = false;
            }
        }
        Check.due("README.md has calls", calls > 50, true);
        Check.finish("ReadmeTest");
    }

    private static void look(BreathTown x, Matcher call) throws Exception {
        String[] written = call.group(2).isEmpty() ? new String[0] : call.group(2).split(", ");
        Object[] numbers = new Object[written.length];
        for (int k = 0; k < written.length; k++) {
            numbers[k] = written[k].startsWith("0b") ? Integer.valueOf(written[k].substring(2), 2) : Integer.decode(written[k]);
        }
        for (Method m : BreathTown.class.getDeclaredMethods()) {
            if (m.getName().equals(call.group(1)) && m.getParameterCount() == numbers.length) {
                Check.due(call.group(), counted("" + m.invoke(x, numbers)), counted(call.group(3)));
            }
        }
    }

    private static long counted(String answer) {
        return answer.equals("true") ? 1 : answer.equals("false") ? 0 : Long.parseLong(answer);
    }
}
