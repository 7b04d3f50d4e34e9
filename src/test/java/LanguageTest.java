import java.io.IOException;
import java.lang.reflect.Constructor;
import java.lang.reflect.Field;
import java.lang.reflect.Method;
import java.lang.reflect.Modifier;
import java.nio.charset.StandardCharsets;
import java.nio.file.Files;
import java.nio.file.Path;
import java.util.ArrayList;
import java.util.HashSet;
import java.util.List;
import java.util.Set;
import java.util.regex.Pattern;

/** What of LANGUAGE.md a program can easily see; the argument is the folder of the project. */
public final class LanguageTest {
    private static final String[] FORBIDDEN = {
        "^import ", "->", "::", "\\bthrow", "\\btry\\b", "\\bcatch\\b", "\\bsynchronized\\b", "\\bassert\\b",
        "\\bpackage\\b", "\\bSystem\\.(?!arraycopy)", "\\bnew [A-Za-z]+\\(.*\\) \\{", "Exact\\(",
        "\\bjava\\.", "\\bvar\\b", "\\bObject\\b", "\\bstatic \\{",
    };

    public static void main(String[] args) throws IOException {
        Due due = new Due("LanguageTest");
        text(due, Path.of(args.length > 0 ? args[0] : ".", "src", "main", "java", "ShrinkDesk.java"));
        List<Class<?>> classes = new ArrayList<>();
        classes.add(ShrinkDesk.class);
        classes.addAll(List.of(ShrinkDesk.class.getDeclaredClasses()));
        due.is("at most twelve classes", classes.size() <= 12, true);
        Set<String> face = new HashSet<>();
        for (Method method : ShrinkDesk.class.getMethods()) {
            face.add(method.getName());
        }
        for (Class<?> each : classes) {
            due.is("no class inside " + each, each == ShrinkDesk.class || each.getDeclaredClasses().length == 0, true);
            due.is(each + " is static", each == ShrinkDesk.class || Modifier.isStatic(each.getModifiers()), true);
            fields(due, each);
            methods(due, each, face);
        }
        wildCalls(due);
        due.end();
    }

    /** Rule 7: no call throws or fails to end, for any arguments in any state. */
    private static void wildCalls(Due due) {
        long seed = 12345;
        for (int round = 0; round < 40; round++) {
            ShrinkDesk desk = new ShrinkDesk();
            for (int call = 0; call < 4000; call++) {
                seed = seed * 6364136223846793005L + 1442695040888963407L;
                wildCall(desk, (int) (seed >>> 59), (int) (seed >>> 33), (int) (seed >>> 20));
            }
            due.is("length() after wild calls", desk.length() >= 0 && desk.length() <= 32, true);
        }
    }

    private static void wildCall(ShrinkDesk desk, int which, int x, int y) {
        String signs = which % 2 == 0 ? "ab(A=;" : Hand.GRAMMAR_SIGNS;
        char c = x % 7 == 0 ? (char) y : signs.charAt(Math.floorMod(x, signs.length()));
        int small = x % 5 == 0 ? y : Math.floorMod(y, 12) - 2;
        switch (which % 16) {
            case 0: desk.type(c); break;
            case 1: desk.write(c); break;
            case 2: wildRead(desk, x, y); break;
            case 3: desk.has(c, small); break;
            case 4: desk.pair(c, 'a', y > 0); break;
            case 5: desk.size(small); break;
            case 6: desk.not(); break;
            case 7: desk.join(y > 0); break;
            case 8: desk.mark(y > 0); break;
            case 9: desk.remember(y > 0); break;
            case 10: desk.node(small + desk.outcome() + desk.nodes()); break;
            case 11: desk.depth(small); break;
            case 12: desk.at(small); break;
            case 13: desk.count(small); break;
            case 14: desk.type((char) ('a' + (y & 1))); break;
            default: desk.reduce(small, x % 3 == 0 ? y : 400); break;
        }
    }

    private static void wildRead(ShrinkDesk desk, int x, int y) {
        if (x % 3 == 0) {
            desk.clear();
        }
        desk.read();
        if (x % 4 > 0) {
            Hand.write(desk, y % 2 == 0 ? "A=B*;B=a?b+;" : "F=(F)/E*;E=b+/a?b?;");
            desk.read();
        }
    }

    private static void fields(Due due, Class<?> each) {
        int own = 0;
        for (Field field : each.getDeclaredFields()) {
            boolean isStatic = Modifier.isStatic(field.getModifiers());
            own += isStatic ? 0 : 1;
            due.is(field + " is a constant", !isStatic || Modifier.isFinal(field.getModifiers()), true);
        }
        due.is("at most twenty fields in " + each, own <= 20, true);
    }

    private static void methods(Due due, Class<?> each, Set<String> face) {
        for (Method method : each.getDeclaredMethods()) {
            due.is("at most seven parameters: " + method, method.getParameterCount() <= 7, true);
            boolean ofFace = each == ShrinkDesk.class && Modifier.isPublic(method.getModifiers());
            due.is("a name of the face: " + method, !ofFace && face.contains(method.getName()), false);
        }
        for (Constructor<?> constructor : each.getDeclaredConstructors()) {
            due.is("at most seven parameters: " + constructor, constructor.getParameterCount() <= 7, true);
        }
    }

    private static void text(Due due, Path path) throws IOException {
        List<String> lines = Files.readAllLines(path, StandardCharsets.UTF_8);
        int since = 0;
        for (int i = 0; i < lines.size(); i++) {
            String line = lines.get(i);
            String place = "line " + (i + 1) + ": " + line;
            due.is("signs 1 to 127, " + place, line.chars().allMatch(c -> c >= 1 && c <= 127), true);
            boolean comment = line.trim().startsWith("*") || line.trim().startsWith("/*");
            for (String forbidden : FORBIDDEN) {
                due.is(forbidden + " in " + place, !comment && Pattern.compile(forbidden).matcher(line).find(), false);
            }
            if (Pattern.matches("( {4}| {8})[a-zA-Z].*\\) \\{", line)) {
                since = i;
            }
            if (Pattern.matches("( {4}| {8})\\}", line)) {
                due.is("at most sixty lines, ending with " + place, i - since < 60 || line.startsWith("    }"), true);
            }
        }
    }
}
