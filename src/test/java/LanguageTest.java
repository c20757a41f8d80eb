import java.io.IOException;
import java.lang.reflect.Field;
import java.lang.reflect.Method;
import java.lang.reflect.Modifier;
import java.nio.file.Files;
import java.nio.file.Path;
import java.util.ArrayList;
import java.util.HashSet;
import java.util.List;
import java.util.Set;
import java.util.regex.Matcher;
import java.util.regex.Pattern;

/** What of ../shared/LANGUAGE.md can be seen from the file's lines and from its classes, by the rules' numbers. */
public final class LanguageTest {
    private static final Path FILE = Path.of("src/main/java/SwitchedModules.java");
    private static final Due DUE = new Due();

    public static void main(String[] args) throws IOException {
        List<String> lines = withoutComments(Files.readAllLines(FILE));
        List<Class<?>> classes = new ArrayList<>(List.of(SwitchedModules.class.getDeclaredClasses()));
        DUE.is("rule 11: at most twelve classes", classes.size() < 12, true);
        classes.add(SwitchedModules.class);
        wordsLeftOut(lines);
        library(String.join("\n", lines));
        loops(lines);
        makesOnlyInConstructors(lines);
        methodsAreShort(lines);
        Set<String> face = new HashSet<>();
        for (Method m : SwitchedModules.class.getMethods()) {
            face.add(m.getName());
        }
        for (Class<?> c : classes) {
            members(c, face);
        }
        DUE.end();
    }

    /** Comments stand on lines of their own there. */
    private static List<String> withoutComments(List<String> lines) {
        List<String> code = new ArrayList<>();
        for (String line : lines) {
            boolean comment = line.trim().startsWith("//") || line.trim().startsWith("/**");
            DUE.is("a comment on one line: " + line, comment || !line.contains("//") && !line.contains("*/"), true);
            code.add(comment ? "" : line);
        }
        return code;
    }

    /** Rules 2, 3, 4, 6: the program needs none of these, some of which are not allowed at all. */
    private static void wordsLeftOut(List<String> lines) {
        Pattern left = Pattern.compile("\\b(package|import|throws?|try|catch|finally|synchronized|assert|double|float"
            + "|null|instanceof|while|do|Object|protected)\\b|->|::|\"|@");
        for (String line : lines) {
            DUE.is("no need for what is in: " + line, left.matcher(line).find(), false);
        }
    }

    /** Rule 4. */
    private static void library(String code) {
        Set<String> allowed = Set.of("System.arraycopy", "Math.max", "Version.at");
        Matcher use = Pattern.compile("\\b[A-Z]\\w*\\.\\w+").matcher(code);
        while (use.find()) {
            DUE.is("rule 4: " + use.group(), allowed.contains(use.group()), true);
        }
    }

    /** Rule 9: each loop counts up by one against a bound. */
    private static void loops(List<String> lines) {
        for (String line : lines) {
            if (line.contains("for (")) {
                String counter = ".*for \\(int (\\w+) = [^;]+; \\1 <=? [^;|]+; \\1\\+\\+\\) \\{";
                DUE.is("rule 9: " + line, line.matches(counter), true);
            }
        }
    }

    /** Rule 12 and the room of a run: what a call needs has been made with the object. */
    private static void makesOnlyInConstructors(List<String> lines) {
        for (String line : lines) {
            boolean initialiser = line.matches(" +(private )?final [\\w\\[\\]]+ \\w+ = new [^;]+;");
            boolean constructor = line.equals("            tasks[t] = new Task();");
            DUE.is("made by a call: " + line, line.contains("new ") && !initialiser && !constructor, false);
        }
    }

    /** Rule 11: some sixty lines. */
    private static void methodsAreShort(List<String> lines) {
        int begin = 0;
        int methods = 0;
        String end = "";
        for (int i = 0; i < lines.size(); i++) {
            String line = lines.get(i);
            if (end.isEmpty() && line.matches(" +[\\w ]+\\([\\w, \\[\\]]*\\) \\{")) {
                begin = i;
                end = line.replaceAll("\\S.*", "") + "}";
            } else if (!end.isEmpty() && line.equals(end)) {
                methods++;
                DUE.is("rule 11: short, up to line " + (i + 1), i - begin < 60, true);
                end = "";
            }
        }
        DUE.is("methods were found, and the last one ends", methods > 40 && end.isEmpty(), true);
    }

    private static void members(Class<?> c, Set<String> face) {
        int own = 0;
        for (Field f : c.getDeclaredFields()) {
            boolean constant = Modifier.isStatic(f.getModifiers());
            own += constant ? 0 : 1;
            boolean allowed = Modifier.isFinal(f.getModifiers()) && f.getType() == int.class;
            DUE.is("rule 5: " + f, !constant || allowed, true);
        }
        DUE.is("rule 11: at most twenty fields in " + c, own <= 20, true);
        for (Method m : c.getDeclaredMethods()) {
            DUE.is("rule 11: at most seven parameters: " + m, m.getParameterCount() <= 7, true);
            boolean outside = c == SwitchedModules.class && Modifier.isPublic(m.getModifiers());
            DUE.is("rule 1: a name of the face: " + m, !outside && face.contains(m.getName()), false);
        }
    }
}
