import java.io.IOException;
import java.io.InputStream;
import java.nio.charset.StandardCharsets;
import java.nio.file.DirectoryStream;
import java.nio.file.Files;
import java.nio.file.Path;
import java.nio.file.Paths;
import java.nio.file.StandardCopyOption;
import java.util.ArrayList;
import java.util.List;
import java.util.regex.Matcher;
import java.util.regex.Pattern;

/** What README.md shows is true: its example, its commands, the files that it names. Run from the project's folder. */
public final class ReadmeTest {
    private static final String CLASS = "src/main/java/HedgeNews.java";
    private static final Path FOLDER = Paths.get("build/ci/readme");
    private static final Pattern BLOCK = Pattern.compile("```([a-z]+)\n(.*?)```", Pattern.DOTALL);
    private static final Pattern ANSWERED_CALL = Pattern.compile("tell\\(\"([a-zA-Z]+)\", .*\\); +// ([^:]+).*");
    private static final Pattern FILE = Pattern.compile("(\\.\\./shared|src)(/[A-Za-z]+(\\.[a-z]+)?)+");
    private static final Pattern TEST_ROW = Pattern.compile("(?m)^\\| `([A-Za-z]+)` \\|");
    private static final Pattern TESTS_RUN = Pattern.compile("`([0-9]+) tests run, 0 failed`");

    private ReadmeTest() {
    }

    public static void main(String[] args) throws IOException, InterruptedException {
        String page = Files.readString(Paths.get("README.md"), StandardCharsets.UTF_8);
        String example = blockWith(page, "java", "class Example");
        lookAtExample(example, printed(example, blockWith(page, "sh", "Example.java")));
        lookAtFiles(page);
        lookAtTests(page);
        Checks.finish("ReadmeTest");
    }

    private static String blockWith(String page, String language, String words) {
        Matcher block = BLOCK.matcher(page);
        while (block.find()) {
            if (block.group(1).equals(language) && block.group(2).contains(words)) {
                return block.group(2);
            }
        }
        throw new IllegalStateException("README.md shows no " + language + " with " + words);
    }

    /** Does what the page says: saves the example, and gives the commands to a shell. */
    private static List<String> printed(String example, String commands) throws IOException, InterruptedException {
        Path copy = FOLDER.resolve(CLASS);
        Files.createDirectories(copy.getParent());
        Files.copy(Paths.get(CLASS), copy, StandardCopyOption.REPLACE_EXISTING);
        Files.writeString(FOLDER.resolve("Example.java"), example, StandardCharsets.UTF_8);
        ProcessBuilder shell = new ProcessBuilder("sh", "-e", "-c", commands);
        Process process = shell.directory(FOLDER.toFile()).redirectErrorStream(true).start();
        process.getOutputStream().close();
        try (InputStream out = process.getInputStream()) {
            String text = new String(out.readAllBytes(), StandardCharsets.UTF_8);
            Checks.due("the exit code of the example, which printed " + text + ",", process.waitFor(), 0);
            return List.of(text.split("\n"));
        }
    }

    private static void lookAtExample(String example, List<String> printed) {
        List<String> shown = new ArrayList<>();
        for (String line : example.split("\n")) {
            Matcher call = ANSWERED_CALL.matcher(line.trim());
            if (call.matches()) {
                shown.add(call.group(1) + " " + call.group(2).trim());
            } else {
                Checks.due("a call without an answer in: " + line, line.contains("tell(\""), false);
            }
        }
        Checks.due("lines that the example prints", printed.size(), shown.size());
        for (int i = 0; i < shown.size() && i < printed.size(); i++) {
            Checks.due("the example prints " + printed.get(i) + ", README.md shows " + shown.get(i) + ": is it so",
                printed.get(i).equals(shown.get(i)), true);
        }
    }

    private static void lookAtFiles(String page) {
        Matcher file = FILE.matcher(page);
        while (file.find()) {
            Checks.due("there is " + file.group(), Files.exists(Paths.get(file.group())), true);
        }
        Checks.due("there is .ci/run, and it can be run", Files.isExecutable(Paths.get(".ci/run")), true);
    }

    /** The page names each test, and none that is not there, and tells their number. */
    private static void lookAtTests(String page) throws IOException {
        List<String> tests = filesIn("src/test/java", "*Test.java");
        List<String> named = new ArrayList<>();
        Matcher row = TEST_ROW.matcher(page);
        while (row.find()) {
            named.add(row.group(1) + ".java");
        }
        Checks.due("tests that are in one of " + tests + " and " + named + ", but not in the other",
            named.containsAll(tests) && tests.containsAll(named), true);
        Matcher run = TESTS_RUN.matcher(page);
        int inAll = tests.size() + filesIn("../shared/tests", "*.java").size();
        Checks.due("tests run", run.find() ? Integer.parseInt(run.group(1)) : -1, inAll);
    }

    private static List<String> filesIn(String folder, String pattern) throws IOException {
        List<String> names = new ArrayList<>();
        try (DirectoryStream<Path> files = Files.newDirectoryStream(Paths.get(folder), pattern)) {
            for (Path file : files) {
                names.add(file.getFileName().toString());
            }
        }
        return names;
    }
}
