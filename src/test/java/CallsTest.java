import java.io.IOException;
import java.nio.charset.StandardCharsets;
import java.nio.file.Files;
import java.nio.file.Path;
import java.util.ArrayList;
import java.util.List;
import java.util.regex.Matcher;
import java.util.regex.Pattern;

/**
 * Rules 8 and 11 of LANGUAGE.md about calls within the class: a method that calls itself is private and
 * static, no others come back to themselves, and calls go at most eight deep. What stands before a dot
 * is told by the classes it is declared with anywhere in the file, so rather too many calls are seen
 * than too few. The argument is the folder of the project.
 */
public final class CallsTest {
    private static final Pattern HEADER = Pattern.compile("^( {4}| {8})(\\w[\\w\\[\\] ]*?) ?\\b(\\w+)\\([^;]*\\) \\{$");
    private static final Pattern CLASS = Pattern.compile("\\bclass (\\w+)");
    private static final Pattern DECLARED = Pattern.compile("\\b([A-Z]\\w*) (\\w+)(?= = |;|,|\\))");
    private static final Pattern CALL = Pattern.compile("(?<![\\w.])(?:(\\w+)(?:\\[[^\\]]*\\])?\\.)?(\\w+)\\(");
    private static final int DEEPEST = 8;

    private static final class Body {
        final String of;
        final String words;
        final String name;
        final StringBuilder text = new StringBuilder();
        final List<Body> calls = new ArrayList<>();

        Body(String of, String words, String name) {
            this.of = of;
            this.words = words;
            this.name = name;
        }
    }

    public static void main(String[] args) throws IOException {
        Due due = new Due("CallsTest");
        Path path = Path.of(args.length > 0 ? args[0] : ".", "src", "main", "java", "ShrinkDesk.java");
        List<Body> bodies = bodies(path);
        String declared = declared(path);
        due.is("all methods are seen", bodies.size() > 80, true);
        for (Body body : bodies) {
            findCalls(body, bodies, declared);
        }
        int most = 0;
        for (Body body : bodies) {
            String place = body.of + "." + body.name;
            if (body.calls.contains(body)) {
                due.is(place + " calls itself and is private static", body.words.startsWith("private static "), true);
            }
            due.is(place + " comes back through others", comesBack(body), false);
            most = Math.max(most, deep(body, new ArrayList<>()));
        }
        due.is("calls go at most eight deep, not " + most, most <= DEEPEST, true);
        due.is("some go more than four deep", most > 4, true);
        due.end();
    }

    private static List<Body> bodies(Path path) throws IOException {
        List<Body> bodies = new ArrayList<>();
        String of = "";
        Body open = null;
        for (String line : Files.readAllLines(path, StandardCharsets.UTF_8)) {
            Matcher named = CLASS.matcher(line);
            Matcher header = HEADER.matcher(line);
            if (line.trim().startsWith("*") || line.trim().startsWith("/*")) {
                continue;
            }
            if (named.find()) {
                of = named.group(1);
                open = null;
            } else if (header.find()) {
                open = new Body(of, header.group(2) + " ", header.group(3));
                bodies.add(open);
            } else if (open != null) {
                open.text.append(line).append('\n');
            }
        }
        return bodies;
    }

    /** All declarations of the file, each as " Class name ". */
    private static String declared(Path path) throws IOException {
        StringBuilder declared = new StringBuilder();
        Matcher matcher = DECLARED.matcher(Files.readString(path, StandardCharsets.UTF_8));
        while (matcher.find()) {
            declared.append(' ').append(matcher.group(1)).append(' ').append(matcher.group(2)).append(' ');
        }
        return declared.toString();
    }

    /** Without something before the dot a call is one of the same class, or of the outermost one. */
    private static void findCalls(Body body, List<Body> bodies, String declared) {
        Matcher call = CALL.matcher(body.text);
        while (call.find()) {
            String before = call.group(1);
            for (Body other : bodies) {
                boolean mayBe = before == null
                    ? other.of.equals(body.of) || other.of.equals("ShrinkDesk")
                    : other.of.equals(before) || declared.contains(" " + other.of + " " + before + " ");
                if (other.name.equals(call.group(2)) && mayBe && !body.calls.contains(other)) {
                    body.calls.add(other);
                }
            }
        }
    }

    private static boolean comesBack(Body body) {
        List<Body> seen = new ArrayList<>();
        List<Body> open = new ArrayList<>(body.calls);
        open.remove(body);
        while (!open.isEmpty()) {
            Body next = open.remove(open.size() - 1);
            if (next == body) {
                return true;
            }
            if (!seen.contains(next)) {
                seen.add(next);
                open.addAll(next.calls);
            }
        }
        return false;
    }

    /** How many methods stand open at most from this one on, each counted once. */
    private static int deep(Body body, List<Body> above) {
        above.add(body);
        int most = 0;
        for (Body next : body.calls) {
            if (!above.contains(next)) {
                most = Math.max(most, deep(next, above));
            }
        }
        above.remove(body);
        return 1 + most;
    }
}
