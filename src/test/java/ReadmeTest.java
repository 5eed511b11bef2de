import java.io.IOException;
import java.lang.reflect.Method;
import java.lang.reflect.Modifier;
import java.net.URL;
import java.net.URLClassLoader;
import java.nio.charset.StandardCharsets;
import java.nio.file.Files;
import java.nio.file.Path;
import java.util.List;
import java.util.regex.Matcher;
import java.util.regex.Pattern;
import java.util.spi.ToolProvider;

/** The README's Java is compiled and run; a comment that begins with a number tells the answer that is due. Run in the project's folder. */
public final class ReadmeTest {
    private static final Pattern BLOCK = Pattern.compile("(?s)```java\n(.*?)```");
    private static final Pattern ANSWERED = Pattern.compile("(int (\\w+) = )?(.*);\\s+// (-?\\d+|BAD|NO|FULL)\\b.*");
    private static int answered = 0;

    private ReadmeTest() {
    }

    public static void main(String[] args) throws IOException, ReflectiveOperationException {
        String readme = Files.readString(Path.of("README.md"), StandardCharsets.UTF_8);
        callsAreTold(readme);
        Path folder = Files.createTempDirectory("readme");
        try {
            for (Object row : rowsOf(programOf(readme), folder)) {
                String[] parts = (String[]) row;
                Checks.due("README: " + parts[0], Long.parseLong(parts[1]), Long.parseLong(parts[2]));
            }
        } finally {
            for (String name : new String[] {"ReadmeCode.java", "ReadmeCode.class", ""}) {
                Files.deleteIfExists(folder.resolve(name));
            }
        }
        Checks.due("the README tells answers", answered > 20 ? 1 : 0, 1);
        Checks.end();
    }

    private static void callsAreTold(String readme) {
        for (Method method : MappingTexts.class.getDeclaredMethods()) {
            if (Modifier.isPublic(method.getModifiers())) {
                Checks.due("the README tells of " + method.getName(), readme.contains("\n| `" + method.getName() + "(") ? 1 : 0, 1);
            }
        }
    }

    /** Blocks that begin with "static" are methods, all others one row of statements. */
    private static String programOf(String readme) {
        StringBuilder methods = new StringBuilder();
        StringBuilder statements = new StringBuilder();
        Matcher block = BLOCK.matcher(readme);
        while (block.find()) {
            if (block.group(1).startsWith("static ")) {
                methods.append(block.group(1));
            } else {
                block.group(1).lines().forEach(line -> statements.append(asked(line)).append('\n'));
            }
        }
        return "public final class ReadmeCode {\nprivate static final int BAD = -1, NO = -2, FULL = -3;\n" + methods
            + "public static java.util.List<String[]> run() {\njava.util.List<String[]> rows = new java.util.ArrayList<>();\n"
            + statements + "return rows;\n}\n}\n";
    }

    private static String asked(String line) {
        Matcher m = ANSWERED.matcher(line);
        if (!m.matches()) {
            return line;
        }
        answered++;
        String kept = m.group(2) == null ? "answer" + answered : m.group(2);
        return "int " + kept + " = " + m.group(3) + "; rows.add(new String[] {\"" + m.group(3).replace("\"", "\\\"") + "\", \"\" + "
            + kept + ", \"\" + " + m.group(4) + "});";
    }

    private static List<?> rowsOf(String program, Path folder) throws IOException, ReflectiveOperationException {
        Path source = Files.writeString(folder.resolve("ReadmeCode.java"), program, StandardCharsets.UTF_8);
        ToolProvider javac = ToolProvider.findFirst("javac").orElseThrow();
        int wrong = javac.run(System.out, System.out, "-cp", System.getProperty("java.class.path"), "-d", folder.toString(), source.toString());
        Checks.due("the README's Java compiles", wrong, 0);
        if (wrong != 0) {
            return List.of();
        }
        try (URLClassLoader loader = new URLClassLoader(new URL[] {folder.toUri().toURL()})) {
            return (List<?>) loader.loadClass("ReadmeCode").getMethod("run").invoke(null);
        }
    }
}
