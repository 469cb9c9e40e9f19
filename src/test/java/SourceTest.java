import java.io.IOException;
import java.nio.file.Files;
import java.nio.file.Path;
import java.util.List;

/** Rules of LANGUAGE.md that can be seen in the program's text. Run from the project's directory. */
public final class SourceTest {
    private static final String[] FORBIDDEN = {"->", "::", "catch", "finally", "synchronized",
        "assert", "static {", "System.", "Exact(", "while (true)", "protected", "package"};

    public static void main(String[] args) throws IOException {
        List<String> lines = Files.readAllLines(Path.of("src/main/java/TreePress.java"));
        int methodLines = 0;
        for (int i = 0; i < lines.size(); i++) {
            String line = lines.get(i);
            String code = line.trim();
            if (code.startsWith("//") || code.startsWith("*") || code.startsWith("/*")) {
                continue;
            }
            for (String each : FORBIDDEN) {
                Check.isTrue("line " + (i + 1) + " without " + each, !code.contains(each));
            }
            Check.isTrue("line " + (i + 1) + " imports nothing else",
                    !code.startsWith("import") || code.equals("import java.util.Arrays;"));
            methodLines = code.isEmpty() ? 0 : methodLines + 1;
            Check.isTrue("line " + (i + 1) + " is in a short method", methodLines <= 60);
        }
        Check.finish();
    }
}
