import java.io.IOException;
import java.lang.reflect.Constructor;
import java.lang.reflect.Field;
import java.lang.reflect.Method;
import java.lang.reflect.Modifier;
import java.nio.charset.StandardCharsets;
import java.nio.file.Files;
import java.nio.file.Path;
import java.util.ArrayList;
import java.util.HashSet;
import java.util.List;
import java.util.Set;
import java.util.regex.Pattern;

/** What of LANGUAGE.md a program can easily see; the argument is the folder of the project. */
public final class LanguageTest {
    private static final String[] FORBIDDEN = {
        "^import ", "->", "::", "\\bthrow", "\\btry\\b", "\\bcatch\\b", "\\bsynchronized\\b", "\\bassert\\b",
        "\\bpackage\\b", "\\bSystem\\.(?!arraycopy)", "\\bnew [A-Za-z]+\\(.*\\) \\{", "Exact\\(",
        "\\bjava\\.", "\\bvar\\b", "\\bObject\\b", "\\bstatic \\{",
    };

    public static void main(String[] args) throws IOException {
        Due due = new Due("LanguageTest");
        text(due, Path.of(args.length > 0 ? args[0] : ".", "src", "main", "java", "ShrinkDesk.java"));
        List<Class<?>> classes = new ArrayList<>();
        classes.add(ShrinkDesk.class);
        classes.addAll(List.of(ShrinkDesk.class.getDeclaredClasses()));
        due.is("at most twelve classes", classes.size() <= 12, true);
        Set<String> face = new HashSet<>();
        for (Method method : ShrinkDesk.class.getMethods()) {
            face.add(method.getName());
        }
        for (Class<?> each : classes) {
            due.is("no class inside " + each, each == ShrinkDesk.class || each.getDeclaredClasses().length == 0, true);
            due.is(each + " is static", each == ShrinkDesk.class || Modifier.isStatic(each.getModifiers()), true);
            fields(due, each);
            methods(due, each, face);
        }
        due.end();
    }

    private static void fields(Due due, Class<?> each) {
        int own = 0;
        for (Field field : each.getDeclaredFields()) {
            boolean isStatic = Modifier.isStatic(field.getModifiers());
            own += isStatic ? 0 : 1;
            due.is(field + " is a constant", !isStatic || Modifier.isFinal(field.getModifiers()), true);
        }
        due.is("at most twenty fields in " + each, own <= 20, true);
    }

    private static void methods(Due due, Class<?> each, Set<String> face) {
        for (Method method : each.getDeclaredMethods()) {
            due.is("at most seven parameters: " + method, method.getParameterCount() <= 7, true);
            boolean ofFace = each == ShrinkDesk.class && Modifier.isPublic(method.getModifiers());
            due.is("a name of the face: " + method, !ofFace && face.contains(method.getName()), false);
        }
        for (Constructor<?> constructor : each.getDeclaredConstructors()) {
            due.is("at most seven parameters: " + constructor, constructor.getParameterCount() <= 7, true);
        }
    }

    private static void text(Due due, Path path) throws IOException {
        List<String> lines = Files.readAllLines(path, StandardCharsets.UTF_8);
        int since = 0;
        for (int i = 0; i < lines.size(); i++) {
            String line = lines.get(i);
            String place = "line " + (i + 1) + ": " + line;
            due.is("signs 1 to 127, " + place, line.chars().allMatch(c -> c >= 1 && c <= 127), true);
            boolean comment = line.trim().startsWith("*") || line.trim().startsWith("/*");
            for (String forbidden : FORBIDDEN) {
                due.is(forbidden + " in " + place, !comment && Pattern.compile(forbidden).matcher(line).find(), false);
            }
            if (Pattern.matches("( {4}| {8})[a-zA-Z].*\\) \\{", line)) {
                since = i;
            }
            if (Pattern.matches("( {4}| {8})\\}", line)) {
                due.is("at most sixty lines, ending with " + place, i - since < 60 || line.startsWith("    }"), true);
            }
        }
    }
}
