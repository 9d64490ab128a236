import java.lang.reflect.Constructor;
import java.lang.reflect.Field;
import java.lang.reflect.Method;
import java.lang.reflect.Modifier;
import java.nio.file.Files;
import java.nio.file.Path;
import java.util.Arrays;
import java.util.Set;
import java.util.TreeSet;
import java.util.regex.Matcher;
import java.util.regex.Pattern;

/** The face of the document, and what of LANGUAGE.md can be seen from the text and by reflection. */
final class RulesTest {
    private static final String FACE = "feed(int,int,int,int,int)int end(int)boolean town()int fault(int)int has(int)int "
        + "letter(int,int,int)int street(int,int)int walker(int,int)int width(int,int)int passes(int,int,int)int "
        + "next(int,int,int)int often(int,int,int,int)int wide(int,int)int way(int,int)int arrival(int,int)int "
        + "stuck(int,int)int needed(int)int parade(int,int)int rows(int,int)int doctors(int,int,int)int go(int)int "
        + "send(int)int hold(int,int)int days(int)int undo()boolean seed(int)boolean see()int shifts(int,int)int "
        + "telling(int,int)int ask()long image()int octet(int)int on()boolean status(int)int";

    public static void main(String[] args) throws Exception {
        face();
        nested(BreathTown.class);
        text(Files.readString(Path.of("src/main/java/BreathTown.java")));
        Check.finish("RulesTest");
    }

    private static void face() {
        Set<String> want = new TreeSet<>(Arrays.asList(FACE.split(" ")));
        Set<String> got = new TreeSet<>();
        Set<String> names = new TreeSet<>();
        for (Method m : BreathTown.class.getDeclaredMethods()) {
            if (Modifier.isPublic(m.getModifiers())) {
                got.add(signature(m));
                names.add(m.getName());
                Check.due(m + " is no static one", Modifier.isStatic(m.getModifiers()), false);
            }
        }
        Check.due("the face is " + got, got.equals(want), true);
        for (Method m : BreathTown.class.getDeclaredMethods()) {
            if (!Modifier.isPublic(m.getModifiers())) {
                Check.due(m + " is private", Modifier.isPrivate(m.getModifiers()), true);
                Check.due(m + " has a name of its own", names.contains(m.getName()), false);
            }
        }
        Set<String> fields = new TreeSet<>();
        for (Field f : BreathTown.class.getDeclaredFields()) {
            if (Modifier.isPublic(f.getModifiers())) {
                fields.add(f.getType() + " " + f.getName());
            } else {
                Check.due(f + " is private", Modifier.isPrivate(f.getModifiers()), true);
            }
        }
        Check.due("the constants are " + fields, fields.equals(Set.of("int NONE", "long NOTHING")), true);
        Constructor<?>[] constructors = BreathTown.class.getDeclaredConstructors();
        Check.due("one constructor", constructors.length, 1);
        Check.due("without arguments", constructors[0].getParameterCount(), 0);
        Check.due("public and final", BreathTown.class.getModifiers(), Modifier.PUBLIC | Modifier.FINAL);
        for (Class<?> c : BreathTown.class.getDeclaredClasses()) {
            nested(c);
            for (Method m : c.getDeclaredMethods()) {
                Check.due(c + " has a name of the face, " + m.getName(), names.contains(m.getName()), false);
            }
        }
        Check.due("some twelve classes", BreathTown.class.getDeclaredClasses().length <= 12, true);
    }

    private static String signature(Method m) {
        StringBuilder b = new StringBuilder(m.getName()).append('(');
        for (Class<?> p : m.getParameterTypes()) {
            b.append(b.charAt(b.length() - 1) == '(' ? "" : ",").append(p);
        }
        return b.append(')').append(m.getReturnType()).toString();
    }

    /** No inner class, no state that is static, few fields, few parameters. */
    private static void nested(Class<?> c) {
        if (c != BreathTown.class) {
            Check.due(c + " is static", Modifier.isStatic(c.getModifiers()), true);
            Check.due(c + " is not public", Modifier.isPublic(c.getModifiers()), false);
        }
        int count = 0;
        for (Field f : c.getDeclaredFields()) {
            boolean isStatic = Modifier.isStatic(f.getModifiers());
            Check.due(f + " is no static state", isStatic && !Modifier.isFinal(f.getModifiers()), false);
            count += isStatic ? 0 : 1;
        }
        Check.due(c + " has some twenty fields", count <= 20, true);
        for (Method m : c.getDeclaredMethods()) {
            Check.due(m + " takes seven at most", m.getParameterCount() <= 7, true);
        }
    }

    private static void text(String source) {
        String bare = source.replaceAll("(?s)/\\*.*?\\*/", " ").replaceAll("//[^\n]*", " ")
            .replaceAll("\"[^\"\n]*\"", "\"\"").replaceAll("'[^'\n]*'", "' '");
        String[] outside = {"\\bthrows?\\b", "\\btry\\b", "\\bcatch\\b", "\\bsynchronized\\b", "\\bassert\\b", "\\bimport\\b",
            "\\bpackage\\b", "->", "::", "\\bfloat\\b", "\\bdouble\\b", "Exact\\b", "\\binstanceof\\b", "\\bwhile\\b",
            "\\bObject\\b", "\\bRandom\\b", "\\bSystem\\.", "\\bThread\\b", "\"\\s*\\+", "\\+\\s*\"", "\\bstatic\\s*\\{",
            "\\bprotected\\b", "\\bvar\\b", "@"};
        for (String word : outside) {
            Matcher m = Pattern.compile(word).matcher(bare);
            Check.due("the text has " + word, m.find(), false);
        }
        for (char c : source.toCharArray()) {
            if (c > 126) {
                Check.due("the text has the sign " + (int) c, 1, 0);
            }
        }
        String[] lines = bare.split("\n");
        int length = 0;
        for (String line : lines) {
            // Objects and rows are made for fields alone, ahead of all calls.
            boolean makes = line.contains("new ");
            boolean isField = line.matches(" *(private )?final [\\w\\[\\]]+ \\w+ = new [\\w*+() \\[\\],]+;")
                || line.matches(" *(this\\.)?\\w+ = new [\\w ,.\\[\\]()]+;");
            Check.due(line.trim() + " makes something", makes && !isField, false);
            length = line.matches("    (    )?\\S.*\\{") ? 0 : length + 1;
            Check.due(line.trim() + " stands in a long method", length > 62 && line.matches("    (    )?\\}"), false);
        }
    }
}
