import java.io.IOException;
import java.io.PrintWriter;
import java.io.StringWriter;
import java.lang.reflect.Method;
import java.lang.reflect.Modifier;
import java.net.URL;
import java.net.URLClassLoader;
import java.nio.file.Files;
import java.nio.file.Path;
import java.util.ArrayList;
import java.util.List;
import java.util.Set;
import java.util.TreeSet;
import java.util.regex.Matcher;
import java.util.regex.Pattern;
import java.util.spi.ToolProvider;

/** What README.md shows answers as it says: its example is compiled and run, its table is laid beside the face. */
public final class ReadmeTests {
    private static final Pattern BLOCK = Pattern.compile("(?s)```java\n(.*?)```");
    private static final Pattern ANSWER = Pattern.compile("(.*?);\\s*// (-?\\d[\\dEL.]*)(:.*)?");
    private static final Pattern CALL = Pattern.compile("`(\\w+)`");

    private static int wrong;
    private static int shown;

    private ReadmeTests() {
    }

    public static void main(String[] args) throws Exception {
        String readme = Files.readString(Path.of("README.md"));
        table(readme);
        example(readme);
        System.out.println(wrong == 0 ? "the README answers as it says" : wrong + " faults of the README");
        if (wrong != 0) {
            System.exit(1);
        }
    }

    /** Called by the example, behind each answer that it shows. */
    public static void due(String call, long got, long want) {
        shown++;
        check(got == want, call + " answered " + got + ", the README shows " + want);
    }

    /** Called by the example, where it shows a float; a long would be taken by the other one. */
    public static void due(String call, double got, double want) {
        shown++;
        check(got == want, call + " answered " + got + ", the README shows " + want);
    }

    private static void check(boolean holds, String otherwise) {
        if (!holds) {
            wrong++;
            System.out.println(otherwise);
        }
    }

    private static void table(String readme) {
        List<String> named = new ArrayList<>();
        for (String line : readme.split("\n")) {
            String[] cells = line.split("\\|");
            if (cells.length == 3 && !cells[1].contains("`")) {
                Matcher call = CALL.matcher(cells[2]);
                while (call.find()) {
                    named.add(call.group(1));
                }
            }
        }
        Set<String> face = new TreeSet<>();
        for (Method m : LinesOfFragments.class.getDeclaredMethods()) {
            if (Modifier.isPublic(m.getModifiers())) {
                face.add(m.getName());
            }
        }
        check(new TreeSet<>(named).equals(face), "the table names " + new TreeSet<>(named) + ", the face has " + face);
        check(named.size() == face.size(), "the table names a call twice: " + named);
    }

    private static void example(String readme) throws Exception {
        Matcher block = BLOCK.matcher(readme);
        int answers = 0;
        int blocks = 0;
        while (block.find()) {
            blocks++;
            StringBuilder body = new StringBuilder();
            for (String line : block.group(1).split("\n")) {
                Matcher answer = ANSWER.matcher(line.trim());
                if (answer.matches()) {
                    answers++;
                    body.append(dueLine(answer.group(1), answer.group(2)));
                } else {
                    body.append(line).append('\n');
                }
            }
            run("Example" + blocks, body.toString());
        }
        check(answers > 0, "the README shows no answer");
        check(shown == answers, "of " + answers + " answers that the README shows " + shown + " were looked at");
    }

    private static String dueLine(String call, String answer) {
        String quoted = call.replace("\\", "\\\\").replace("\"", "\\\"");
        return "ReadmeTests.due(\"" + quoted + "\", " + call + ", " + answer + ");\n";
    }

    private static void run(String name, String body) throws Exception {
        Path folder = Files.createTempDirectory("readme");
        Path source = folder.resolve(name + ".java");
        try {
            Files.writeString(source,
                "public class " + name + " { public static void main(String[] args) {\n" + body + "} }\n");
            if (compiles(source, folder)) {
                ClassLoader here = ReadmeTests.class.getClassLoader();
                try (URLClassLoader loader = new URLClassLoader(new URL[] {folder.toUri().toURL()}, here)) {
                    loader.loadClass(name).getMethod("main", String[].class).invoke(null, (Object) new String[0]);
                }
            }
        } finally {
            forget(folder);
        }
    }

    private static boolean compiles(Path source, Path folder) {
        StringWriter said = new StringWriter();
        PrintWriter out = new PrintWriter(said);
        int code = ToolProvider.findFirst("javac").orElseThrow().run(out, out, "-encoding", "UTF-8", "-cp",
            System.getProperty("java.class.path"), "-d", folder.toString(), source.toString());
        check(code == 0, "the example does not compile:\n" + said);
        return code == 0;
    }

    private static void forget(Path folder) throws IOException {
        try (var files = Files.list(folder)) {
            for (Path file : files.toList()) {
                Files.delete(file);
            }
        }
        Files.delete(folder);
    }
}
