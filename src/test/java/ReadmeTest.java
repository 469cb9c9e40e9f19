import java.io.IOException;
import java.net.URL;
import java.net.URLClassLoader;
import java.nio.file.Files;
import java.nio.file.Path;
import java.util.regex.Matcher;
import java.util.regex.Pattern;
import javax.tools.JavaCompiler;
import javax.tools.ToolProvider;

/**
 * README.md is held to what it shows: its Java is compiled and run, and each answer that it tells
 * behind "//" is compared with the one that comes. Run from the project's directory.
 */
public final class ReadmeTest {
    private static final Pattern TOLD =
            Pattern.compile("(?:int (\\w+) = )?(.+);\\s+// (-?\\d+|NONE)(?:: .*)?");
    private static final int ANSWERS_DUE = 23;

    private static int told = 0;

    public static void main(String[] args) throws Exception {
        String calls = shownCalls(Files.readString(Path.of("README.md")));
        Check.same("answers that README.md tells", ANSWERS_DUE, told);
        Path dir = Files.createTempDirectory("readme");
        try {
            for (String line : wrongAnswers(dir, calls).lines().toList()) {
                Check.isTrue(line, false);
            }
        } finally {
            Files.deleteIfExists(dir.resolve("ReadmeCalls.java"));
            Files.deleteIfExists(dir.resolve("ReadmeCalls.class"));
            Files.delete(dir);
        }
        Check.finish();
    }

    private static String shownCalls(String readme) {
        StringBuilder calls = new StringBuilder();
        boolean shown = false;
        for (String line : readme.lines().toList()) {
            if (line.startsWith("```")) {
                shown = line.equals("```java");
            } else if (shown) {
                calls.append(compared(line)).append('\n');
            }
        }
        return calls.toString();
    }

    private static String compared(String line) {
        Matcher parts = TOLD.matcher(line);
        if (!parts.matches()) {
            return line;
        }
        told++;
        String due = parts.group(3).replace("NONE", "TreePress.NONE");
        String name = parts.group(1) == null ? "answer" + told : parts.group(1);
        String call = parts.group(2);
        return "int " + name + " = " + call + "; if (" + name + " != " + due
                + ") notAsTold.append(\"" + call + " answers \" + " + name + " + \"\\n\");";
    }

    private static String wrongAnswers(Path dir, String calls) throws Exception {
        Path source = dir.resolve("ReadmeCalls.java");
        Files.writeString(source, "public final class ReadmeCalls { public static String run() {\n"
                + "StringBuilder notAsTold = new StringBuilder();\n" + calls
                + "return notAsTold.toString(); } }\n");
        if (!compiles(source)) {
            return "README.md's Java, as something that compiles,";
        }
        try (URLClassLoader loader = new URLClassLoader(new URL[] {dir.toUri().toURL()})) {
            return (String) loader.loadClass("ReadmeCalls").getMethod("run").invoke(null);
        }
    }

    private static boolean compiles(Path source) throws IOException {
        JavaCompiler compiler = ToolProvider.getSystemJavaCompiler();
        return compiler.run(null, null, null, "-cp", System.getProperty("java.class.path"),
                source.toString()) == 0;
    }
}
