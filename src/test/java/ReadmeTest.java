import java.io.IOException;
import java.lang.reflect.Method;
import java.lang.reflect.Modifier;
import java.net.URL;
import java.net.URLClassLoader;
import java.nio.file.Files;
import java.nio.file.Path;
import java.util.ArrayList;
import java.util.List;
import java.util.regex.Matcher;
import java.util.regex.Pattern;
import java.util.stream.Stream;

/** The examples of README.md compile, and every answer that they show is the one that is given. */
public final class ReadmeTest {
    private static final Path README = Path.of("README.md");
    private static final Pattern BLOCK = Pattern.compile("(?ms)^```java\\n(.*?)^```$");
    private static final Pattern CALL = Pattern.compile("(\\w[\\w.]*\\(.*\\)); *// (-?\\d+)\\b.*");
    private static final Pattern PROGRAM = Pattern.compile(
        "(?ms)^```text\\n(.*?)^```\\s+This prints (-?\\d+) and (-?\\d+)\\.");
    private static final String MAKING = "TinyFront x = new TinyFront();";
    private static final String NAME = "ReadmeExamples";

    private static final Check CHECK = new Check("README.md");

    public static void main(String[] args) throws Exception {
        String text = Files.readString(README);
        examples(text);
        language(text);
        everyCallIsNamed(text);
        CHECK.end();
    }

    private static void examples(String text) throws Exception {
        StringBuilder members = new StringBuilder();
        StringBuilder answers = new StringBuilder();
        int count = 0;
        Matcher block = BLOCK.matcher(text);
        while (block.find()) {
            String lines = block.group(1);
            if (lines.startsWith("static ")) {
                members.append(lines);
            } else {
                answers.append("{\n").append(body(lines)).append("}\n");
                count++;
            }
        }
        CHECK.due("examples that are there", count > 0 ? 1 : 0, 1);
        List<String> wrong = run("public final class " + NAME + " {\n" + members
            + "static java.util.List<String> wrong = new java.util.ArrayList<>();\n"
            + "static void due(String call, long got, long shown) {\n"
            + "if (got != shown) { wrong.add(call + \" gives \" + got + \", shown is \" + shown); }\n"
            + "}\n"
            + "public static java.util.List<String> run() {\n" + answers + "return wrong;\n}\n}\n");
        wrong.forEach(System.out::println);
        CHECK.due("answers that are shown and not given", wrong.size(), 0);
    }

    /** A new object, then nothing but calls with their answers: none may go unlooked at. */
    private static String body(String lines) {
        StringBuilder body = new StringBuilder();
        for (String line : lines.split("\n")) {
            Matcher call = CALL.matcher(line);
            boolean shows = call.matches();
            CHECK.due("a call with its answer: " + line, shows || line.equals(MAKING) ? 1 : 0, 1);
            if (shows) {
                String quoted = call.group(1).replace("\\", "\\\\").replace("\"", "\\\"");
                body.append("due(\"").append(quoted).append("\", ").append(call.group(1));
                body.append(", ").append(call.group(2)).append("L);\n");
            } else {
                body.append(line).append('\n');
            }
        }
        return body.toString();
    }

    private static List<String> run(String source) throws Exception {
        Path folder = Files.createTempDirectory("readme");
        try {
            Path file = Files.writeString(folder.resolve(NAME + ".java"), source);
            String program = System.getProperty("java.class.path");
            int exit = new ProcessBuilder("javac", "-d", folder.toString(), "-cp", program,
                file.toString()).inheritIO().start().waitFor();
            CHECK.due("compiling the examples", exit, 0);
            return exit == 0 ? answersOf(folder) : List.of();
        } finally {
            remove(folder);
        }
    }

    private static List<String> answersOf(Path folder) throws Exception {
        List<String> wrong = new ArrayList<>();
        URL[] places = {folder.toUri().toURL()};
        try (URLClassLoader loader = new URLClassLoader(places)) {
            Object list = loader.loadClass(NAME).getMethod("run").invoke(null);
            for (Object line : (List<?>) list) {
                wrong.add(line.toString());
            }
        }
        return wrong;
    }

    private static void remove(Path folder) throws IOException {
        try (Stream<Path> files = Files.list(folder)) {
            for (Path file : files.toList()) {
                Files.delete(file);
            }
        }
        Files.delete(folder);
    }

    private static void language(String text) {
        Matcher shown = PROGRAM.matcher(text);
        boolean there = shown.find();
        CHECK.due("a program and what it prints", there ? 1 : 0, 1);
        if (!there) {
            return;
        }
        TinyFront x = Check.compiled(shown.group(1));
        CHECK.due("runTree of the program", x.runTree(1000), 0);
        prints(x, shown);
        CHECK.due("runCode of the program", x.runCode(1000), 0);
        prints(x, shown);
    }

    private static void prints(TinyFront x, Matcher shown) {
        CHECK.due("values that the program prints", x.ran(2), 2);
        CHECK.due("its first value", x.out(0), Integer.parseInt(shown.group(2)));
        CHECK.due("its second value", x.out(1), Integer.parseInt(shown.group(3)));
    }

    /** How to use the class: no call of its face is left out. */
    private static void everyCallIsNamed(String text) {
        for (Method method : TinyFront.class.getDeclaredMethods()) {
            if (Modifier.isPublic(method.getModifiers())) {
                String named = "`" + method.getName() + "(";
                CHECK.due("README.md names " + named, text.contains(named) ? 1 : 0, 1);
            }
        }
    }
}
