import java.lang.reflect.Method;
import java.lang.reflect.Modifier;
import java.net.URL;
import java.net.URLClassLoader;
import java.nio.charset.StandardCharsets;
import java.nio.file.Files;
import java.nio.file.Path;
import java.util.ArrayList;
import java.util.List;
import java.util.regex.Matcher;
import java.util.regex.Pattern;
import javax.tools.JavaCompiler;
import javax.tools.ToolProvider;

/**
 * What README.md shows of calls is what the class answers: its Java is made a program, compiled and
 * run, each block with an object of its own. The argument is the folder of the project.
 */
public final class ReadmeTest {
    /** A call, and behind it what it answers, perhaps with a colon and more words. */
    private static final Pattern SHOWN = Pattern.compile("^(desk\\.(\\w+)\\(.*\\)); +// ('.'|[^ :]+)(: .*)?$");

    private ReadmeTest() {
    }

    public static void main(String[] args) throws Exception {
        Due due = new Due("ReadmeTest");
        List<String> readme = Files.readAllLines(Path.of(args.length > 0 ? args[0] : ".", "README.md"), StandardCharsets.UTF_8);
        int wrong = 0;
        List<String> shown = new ArrayList<>();
        for (String difference : run(due, program(due, readme, shown))) {
            wrong++;
            System.out.println("README.md: " + difference);
        }
        due.is("answers of README.md that are not those of the class", wrong, 0);
        due.is("README.md shows fifty answers or more", shown.size() >= 50, true);
        for (Method method : ShrinkDesk.class.getDeclaredMethods()) {
            if (Modifier.isPublic(method.getModifiers())) {
                due.is("README.md tells of " + method.getName(), isTold(readme, method.getName()), true);
            }
        }
        due.end();
    }

    private static boolean isTold(List<String> readme, String name) {
        return readme.stream().anyMatch(line -> line.startsWith("| `" + name + "("));
    }

    /** A program with one method, which gives a line for each answer that is not the shown one. */
    private static String program(Due due, List<String> readme, List<String> shown) {
        StringBuilder program = new StringBuilder("public final class Shown {\n");
        program.append("static java.util.List<String> all = new java.util.ArrayList<>();\n");
        program.append("static void same(String call, Object got, Object want) {\n");
        program.append("if (!got.equals(want)) all.add(call + \" answers \" + got + \", not \" + want); }\n");
        program.append("public static java.util.List<String> run() {\n");
        boolean inside = false;
        for (String line : readme) {
            if (line.startsWith("```")) {
                inside = line.equals("```java");
                program.append(inside ? "{\n" : "}\n");
            } else if (inside) {
                Matcher matcher = SHOWN.matcher(line);
                if (matcher.matches()) {
                    shown.add(line);
                    String call = matcher.group(1);
                    program.append("same(\"").append(call.replace("\"", "\\\"")).append("\", ");
                    program.append(call).append(", ").append(matcher.group(3)).append(");\n");
                } else {
                    due.is("an answer can be read from " + line, line.contains("//"), false);
                    program.append(line).append('\n');
                }
            }
        }
        return program.append("return all; } }\n").toString();
    }

    private static List<String> run(Due due, String program) throws Exception {
        Path folder = Files.createTempDirectory("shown");
        Path source = folder.resolve("Shown.java");
        try {
            Files.writeString(source, program, StandardCharsets.UTF_8);
            JavaCompiler compiler = ToolProvider.getSystemJavaCompiler();
            String path = System.getProperty("java.class.path");
            int code = compiler.run(null, null, null, "-cp", path, "-d", folder.toString(), source.toString());
            due.is("compiling the Java of README.md", code, 0);
            return code == 0 ? made(folder) : List.of();
        } finally {
            Files.deleteIfExists(source);
            Files.deleteIfExists(folder.resolve("Shown.class"));
            Files.deleteIfExists(folder);
        }
    }

    private static List<String> made(Path folder) throws Exception {
        List<String> lines = new ArrayList<>();
        try (URLClassLoader loader = new URLClassLoader(new URL[] {folder.toUri().toURL()})) {
            Method method = loader.loadClass("Shown").getMethod("run");
            for (Object line : (List<?>) method.invoke(null)) {
                lines.add(String.valueOf(line));
            }
        }
        return lines;
    }
}
