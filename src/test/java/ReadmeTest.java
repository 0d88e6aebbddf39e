import java.io.IOException;
import java.net.URL;
import java.net.URLClassLoader;
import java.nio.file.DirectoryStream;
import java.nio.file.Files;
import java.nio.file.Path;
import java.util.ArrayList;
import java.util.List;
import java.util.regex.Matcher;
import java.util.regex.Pattern;
import javax.tools.ToolProvider;

/** The lines of README.md answer what stands behind them, and it names every test. */
public final class ReadmeTest {
    static final Pattern LINE =
        Pattern.compile("(.*\\)); +// (-?\\d+|true|false|NoSuchElementException)\\b.*");
    static final String HEAD = """
        import java.util.NoSuchElementException;
        public class ReadmeLines {
            public static int lines = 0;
            public static int wrong = 0;
            static void due(String call, String got, String want) {
                lines++;
                if (!got.equals(want)) {
                    wrong++;
                    System.out.println("README.md: " + call + " answered " + got + ", not " + want);
                }
            }
        """;

    static List<List<String>> javaBlocks(List<String> lines) {
        List<List<String>> blocks = new ArrayList<>();
        boolean inside = false;
        for (String line : lines) {
            if (line.equals("```java")) {
                blocks.add(new ArrayList<>());
                inside = true;
            } else if (line.startsWith("```")) {
                inside = false;
            } else if (inside) {
                blocks.get(blocks.size() - 1).add(line);
            }
        }
        return blocks;
    }

    static String asked(String line) {
        Matcher matcher = LINE.matcher(line);
        if (!matcher.matches()) {
            return line + "\n";
        }
        String call = matcher.group(1);
        return "{ String got; try { got = String.valueOf(" + call + "); }"
            + " catch (NoSuchElementException e) { got = \"NoSuchElementException\"; }"
            + " due(\"" + call.replace("\"", "\\\"") + "\", got, \"" + matcher.group(2) + "\"); }\n";
    }

    static String programOf(List<List<String>> blocks) {
        StringBuilder members = new StringBuilder();
        StringBuilder body = new StringBuilder();
        for (List<String> block : blocks) {
            if (block.get(0).startsWith("static")) {
                members.append(String.join("\n", block)).append("\n");
            } else {
                block.forEach(line -> body.append(asked(line)));
            }
        }
        return HEAD + members + "public static void run() {\n" + body + "}\n}\n";
    }

    static int wrongLines(String program) throws Exception {
        Path room = Files.createTempDirectory("readme");
        Path file = Files.writeString(room.resolve("ReadmeLines.java"), program);
        room.toFile().deleteOnExit();
        file.toFile().deleteOnExit();
        room.resolve("ReadmeLines.class").toFile().deleteOnExit();
        int end = ToolProvider.getSystemJavaCompiler().run(null, null, null,
            "-cp", System.getProperty("java.class.path"), "-d", room.toString(), file.toString());
        if (end != 0) {
            System.out.println("the lines of README.md do not compile");
            return 1;
        }
        try (URLClassLoader loader = new URLClassLoader(new URL[] {room.toUri().toURL()})) {
            Class<?> lines = loader.loadClass("ReadmeLines");
            lines.getMethod("run").invoke(null);
            int many = lines.getField("lines").getInt(null);
            System.out.println(many + " lines of README.md run");
            return many < 30 ? 1 : lines.getField("wrong").getInt(null);
        }
    }

    static int testsWithoutName(String readme) throws IOException {
        int missing = 0;
        try (DirectoryStream<Path> files = Files.newDirectoryStream(Path.of("src/test/java"), "*Test.java")) {
            for (Path file : files) {
                String name = file.getFileName().toString().replace(".java", "");
                if (!readme.contains("`" + name)) {
                    System.out.println("README.md does not name " + name);
                    missing++;
                }
            }
        }
        return missing;
    }

    public static void main(String[] args) throws Exception {
        Path readme = Path.of("README.md");
        int wrong = wrongLines(programOf(javaBlocks(Files.readAllLines(readme))));
        wrong += testsWithoutName(Files.readString(readme));
        System.exit(wrong == 0 ? 0 : 1);
    }
}
