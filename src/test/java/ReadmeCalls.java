import java.io.File;
import java.io.IOException;
import java.lang.reflect.Method;
import java.lang.reflect.Modifier;
import java.net.URL;
import java.net.URLClassLoader;
import java.nio.file.Files;
import java.nio.file.Path;
import java.util.ArrayList;
import java.util.Comparator;
import java.util.List;
import java.util.regex.Matcher;
import java.util.regex.Pattern;
import java.util.stream.Stream;
import javax.tools.JavaCompiler;
import javax.tools.ToolProvider;

/** The calls in README.md answer what stands behind them, and all calls and tests stand in it. Runs in the project's folder. */
public final class ReadmeCalls {
    private static final Path README = Path.of("README.md");
    private static final Path TESTS = Path.of("src/test/java");
    private static final Pattern ASKED = Pattern.compile("(x\\.\\w+\\(.*\\)); *// ([-\\w]+): .*");
    private static final Pattern COMMAND = Pattern.compile(" {4}(javac|java) .*");
    private static int asked = 0;
    private static int wrong = 0;

    private ReadmeCalls() { }

    public static void main(String[] args) throws Exception {
        List<String> lines = Files.readAllLines(README);
        String page = String.join("\n", lines);
        Path folder = Files.createTempDirectory("readme");
        try {
            run(folder, program(lines));
        } finally {
            clear(folder);
        }
        allCalls(page);
        allTests(page);
        allCommands(lines);
        System.out.println("readme: " + asked + " answers, wrong: " + wrong);
        if (wrong != 0 || asked == 0) {
            System.exit(1);
        }
    }

    /** Called by the program that is made out of README.md. */
    public static void due(String call, Object got, String want) {
        asked++;
        if (!String.valueOf(got).equals(want)) {
            broken(call + " answered " + got + ", the page says " + want);
        }
    }

    private static void broken(String what) {
        wrong++;
        System.out.println("README.md: " + what);
    }

    /** Blocks that declare are taken as they are, the lines of all others come into one method. */
    private static String program(List<String> lines) {
        StringBuilder members = new StringBuilder();
        StringBuilder body = new StringBuilder();
        for (int i = 0; i < lines.size(); i++) {
            if (lines.get(i).equals("```java")) {
                boolean declares = lines.get(i + 1).startsWith("static ");
                for (i++; !lines.get(i).equals("```"); i++) {
                    (declares ? members : body).append(declares ? lines.get(i) : statement(lines.get(i))).append('\n');
                }
            }
        }
        return "public class Readme {\n" + members + "public static void run() {\n" + body + "}\n}\n";
    }

    private static String statement(String line) {
        Matcher m = ASKED.matcher(line);
        if (!m.matches()) {
            if (line.contains("//")) {
                broken("what does this line answer: " + line);
            }
            return line;
        }
        String call = m.group(1);
        String words = "\"" + call + "\"";
        return "try { ReadmeCalls.due(" + words + ", " + call + ", \"" + m.group(2) + "\"); } "
            + "catch (RuntimeException e) { ReadmeCalls.due(" + words + ", e.getClass().getSimpleName(), \"" + m.group(2) + "\"); }";
    }

    private static void run(Path folder, String program) throws Exception {
        Path source = folder.resolve("Readme.java");
        Files.writeString(source, program);
        if (!compiles("-d", folder.toString(), "-cp", System.getProperty("java.class.path"), source.toString())) {
            broken("its calls do not compile");
            return;
        }
        URL[] at = {folder.toUri().toURL()};
        try (URLClassLoader loader = new URLClassLoader(at, ReadmeCalls.class.getClassLoader())) {
            loader.loadClass("Readme").getMethod("run").invoke(null);
        }
    }

    private static boolean compiles(String... arguments) {
        JavaCompiler compiler = ToolProvider.getSystemJavaCompiler();
        return compiler != null && compiler.run(null, null, null, arguments) == 0;
    }

    private static void clear(Path folder) throws IOException {
        try (Stream<Path> all = Files.walk(folder)) {
            all.sorted(Comparator.reverseOrder()).map(Path::toFile).forEach(File::delete);
        }
    }

    private static void allCalls(String page) {
        for (Method m : GlassSpindle.class.getDeclaredMethods()) {
            if (Modifier.isPublic(m.getModifiers()) && !page.contains("x." + m.getName() + "(")) {
                broken("no call of " + m.getName());
            }
        }
    }

    private static void allTests(String page) throws IOException {
        List<String> there = new ArrayList<>();
        try (Stream<Path> files = Files.list(TESTS)) {
            for (Path file : files.toList()) {
                if (Files.readString(file).contains("static void main(")) {
                    there.add(file.getFileName().toString().replace(".java", ""));
                }
            }
        }
        for (String test : there) {
            if (!page.contains("| `" + test + "`") && !page.contains(", `" + test + "`")) {
                broken("its table does not name " + test);
            }
        }
        Matcher row = Pattern.compile("(?m)^\\| (`.*?) \\|").matcher(page);
        while (row.find()) {
            for (String name : row.group(1).split(", ")) {
                if (!there.contains(name.replace("`", ""))) {
                    broken("its table names what is no test: " + name);
                }
            }
        }
    }

    /** The files that the commands name are there. */
    private static void allCommands(List<String> lines) {
        int commands = 0;
        for (String line : lines) {
            if (COMMAND.matcher(line).matches()) {
                commands++;
                for (String word : line.strip().split(" ")) {
                    if (word.startsWith("src/") && !Files.exists(Path.of(word))) {
                        broken("no such file: " + word);
                    }
                }
            }
        }
        if (commands == 0) {
            broken("no command that runs a test");
        }
    }
}
