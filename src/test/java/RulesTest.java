import java.io.IOException;
import java.nio.charset.StandardCharsets;
import java.nio.file.Files;
import java.nio.file.Paths;
import java.util.List;

/** Some of the rules of LANGUAGE.md that a look at the text can tell; run from the project's folder. */
public final class RulesTest {
    private static final String[] FORBIDDEN = {"import ", "package ", "->", "::", "try ", "catch", "finally", "synchronized",
        "assert", "System.", "Object", "static {", "hashCode", "toString", ".equals(", "Thread", "volatile", "native",
        "record ", "var ", "Exact(", "getMessage", "String.", "ArrayList", "protected", "float ", "while (true"};
    private static final int MOST_CLASSES = 12;
    private static final int MOST_LINES = 60;

    public static void main(String[] args) throws IOException {
        List<String> lines = Files.readAllLines(Paths.get("src/main/java/HedgeNews.java"), StandardCharsets.UTF_8);
        int classes = 0;
        int methodStart = 0;
        for (int i = 0; i < lines.size(); i++) {
            String code = withoutTexts(lines.get(i));
            for (String word : FORBIDDEN) {
                Checks.due("line " + (i + 1) + " has " + word, code.contains(word), false);
            }
            if (code.contains(" class ") || code.contains(" enum ") || code.contains(" interface ")) {
                classes++;
            }
            if (code.matches(" {4}( {4})?[A-Za-z][^=]*\\)( throws [A-Za-z, ]+)? \\{")) {
                methodStart = i;
                Checks.due("parameters in line " + (i + 1) + " are at most seven", code.split(",").length <= 7, true);
            }
            Checks.due("line " + (i + 1) + " is in a short method", i - methodStart > MOST_LINES && code.startsWith("            "), false);
        }
        Checks.due("classes are at most twelve", classes > 0 && classes <= MOST_CLASSES, true);
        Checks.finish("RulesTest");
    }

    /** A line without its comment and without what stands in quotation marks. */
    private static String withoutTexts(String line) {
        String trimmed = line.trim();
        if (trimmed.startsWith("/**") || trimmed.startsWith("*") || trimmed.startsWith("//")) {
            return "";
        }
        return line.replaceAll("\"[^\"]*\"", "\"\"").replaceAll("//.*", "");
    }
}
