import java.io.IOException;
import java.lang.reflect.Method;
import java.lang.reflect.Modifier;
import java.net.URL;
import java.net.URLClassLoader;
import java.nio.file.Files;
import java.nio.file.Path;
import java.util.ArrayList;
import java.util.List;
import java.util.regex.Matcher;
import java.util.regex.Pattern;
import java.util.stream.Stream;
import javax.tools.ToolProvider;

/** What README.md says holds: its code compiles and answers what stands behind it; no call and no test is left out. */
public final class FuseMinutesReadme {
    private static final Path README = Path.of("README.md");
    private static final Path TESTS = Path.of("src/test/java");
    private static final Pattern BLOCK = Pattern.compile("(?s)```java\n(.*?)```");
    private static final Pattern ANSWERED = Pattern.compile("(\\w.*\\)); +// (-?\\d+|true|false): .+");
    private static final String MADE = "FuseMinutes fuse = new FuseMinutes();";
    private static int wrong = 0;
    private static int answers = 0;

    public static void main(String[] args) throws Exception {
        String page = Files.readString(README);
        code(page);
        names(page);
        System.out.println(wrong == 0 ? answers + " answers of README.md hold" : wrong + " things in README.md do not hold");
        if (wrong != 0) System.exit(1);
    }

    private static void broken(String what) {
        wrong++;
        System.out.println("README.md: " + what);
    }

    /** Called by the page's own code. */
    public static void due(String call, long got, long want) {
        answers++;
        if (got != want) broken(call + " answers " + got + ", not " + want);
    }

    public static void due(String call, boolean got, boolean want) {
        due(call, got ? 1 : 0, want ? 1 : 0);
    }

    private static void code(String page) throws Exception {
        StringBuilder methods = new StringBuilder();
        StringBuilder runs = new StringBuilder();
        Matcher block = BLOCK.matcher(page);
        while (block.find()) {
            if (block.group(1).startsWith("static")) {
                methods.append(block.group(1));
            } else {
                runs.append("{\n").append(statements(block.group(1))).append("}\n");
            }
        }
        run("public final class ReadmeCode {\npublic static void go() {\n" + runs + "}\n" + methods + "}\n");
    }

    private static String statements(String block) {
        StringBuilder made = new StringBuilder();
        for (String line : block.split("\n")) {
            Matcher answered = ANSWERED.matcher(line);
            if (answered.matches()) {
                String call = answered.group(1);
                made.append("FuseMinutesReadme.due(\"").append(call.replace("\"", "\\\"")).append("\", ");
                made.append(call).append(", ").append(answered.group(2)).append(");\n");
            } else if (line.equals(MADE)) {
                made.append(line).append("\n");
            } else {
                broken("no answer stands behind '" + line + "'");
            }
        }
        return made.toString();
    }

    private static void run(String source) throws Exception {
        Path dir = Files.createTempDirectory("readme");
        try {
            Path file = Files.writeString(dir.resolve("ReadmeCode.java"), source);
            String path = System.getProperty("java.class.path");
            int failed = ToolProvider.getSystemJavaCompiler().run(null, null, null, "-cp", path, "-d", dir.toString(), file.toString());
            if (failed != 0) {
                broken("its code doesn't compile");
                return;
            }
            try (URLClassLoader loader = new URLClassLoader(new URL[] {dir.toUri().toURL()})) {
                loader.loadClass("ReadmeCode").getMethod("go").invoke(null);
            }
        } finally {
            Files.deleteIfExists(dir.resolve("ReadmeCode.java"));
            Files.deleteIfExists(dir.resolve("ReadmeCode.class"));
            Files.delete(dir);
        }
    }

    private static void names(String page) throws IOException {
        for (Method m : FuseMinutes.class.getDeclaredMethods()) {
            if (Modifier.isPublic(m.getModifiers()) && !names(page, m)) broken("no call " + m);
        }
        List<String> tests = new ArrayList<>();
        try (Stream<Path> files = Files.list(TESTS)) {
            files.forEach(file -> tests.add(file.getFileName().toString().replace(".java", "")));
        }
        for (String test : tests) {
            if (!page.contains("`" + test + "`")) broken("no test " + test);
        }
        Matcher named = Pattern.compile("`((FuseMinutes|Edges)\\w+)`").matcher(page);
        while (named.find()) {
            if (!tests.contains(named.group(1))) broken(named.group(1) + " isn't there");
        }
    }

    /** With as many arguments as it takes. */
    private static boolean names(String page, Method m) {
        int count = m.getParameterCount();
        String arguments = count == 0 ? "" : "\\w+" + ", \\w+".repeat(count - 1);
        return Pattern.compile("`" + m.getName() + "\\(" + arguments + "\\)`").matcher(page).find();
    }
}
