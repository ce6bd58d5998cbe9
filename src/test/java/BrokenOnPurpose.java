import java.io.ByteArrayOutputStream;
import java.io.IOException;
import java.nio.charset.StandardCharsets;
import java.nio.file.Files;
import java.nio.file.Path;
import java.nio.file.Paths;
import java.util.ArrayList;
import java.util.HashSet;
import java.util.List;
import java.util.Set;
import java.util.TreeSet;
import java.util.concurrent.Callable;
import java.util.concurrent.ExecutorService;
import java.util.concurrent.Executors;
import java.util.concurrent.Future;
import java.util.concurrent.TimeUnit;
import javax.tools.ToolProvider;

/**
 * No test, but a look at one: breaks the class in each way that src/test/broken.txt tells, and asks whether those
 * tests of BoundsTest fail that bear the name of what is broken. Run by hand from the project's folder.
 */
public final class BrokenOnPurpose {
    private static final Path CLASS = Paths.get("src/main/java/HedgeNews.java");
    private static final Path WAYS = Paths.get("src/test/broken.txt");
    private static final Path FOLDER = Paths.get("build/broken");
    private static final int MOST_SECONDS = 60;

    private BrokenOnPurpose() {
    }

    /** One way to break the class. */
    private static final class Way {
        final int number;
        final List<String> sentences = new ArrayList<>();
        String text;
        String trouble = "";
        private String anchor = "";
        private String old = "";

        Way(int itsNumber, String whole) {
            number = itsNumber;
            text = whole;
        }

        void read(String line) {
            String rest = line.length() > 2 ? line.substring(2).trim() : "";
            if (line.startsWith("= ")) {
                sentences.add(rest);
            } else if (line.startsWith("- @ ")) {
                anchor = line.substring(4).trim();
            } else if (line.startsWith("-")) {
                old = rest;
            } else {
                replace(rest);
            }
        }

        private void replace(String made) {
            int from = anchor.isEmpty() ? 0 : text.indexOf(anchor);
            int at = from < 0 ? -1 : text.indexOf(old, from);
            if (at < 0) {
                trouble += " not found: " + old;
            } else if (anchor.isEmpty() && text.indexOf(old, at + 1) >= 0) {
                trouble += " found more than once: " + old;
            } else {
                text = text.substring(0, at) + made + text.substring(at + old.length());
            }
            anchor = "";
        }
    }

    public static void main(String[] args) throws Exception {
        String whole = Files.readString(CLASS, StandardCharsets.UTF_8);
        Path tests = Files.createDirectories(FOLDER.resolve("tests"));
        String trouble = compile(tests, "-sourcepath", "src/test/java", CLASS.toString(), "src/test/java/BoundsTest.java");
        if (!trouble.isEmpty()) {
            throw new IllegalStateException(trouble);
        }
        Set<String> names = lines(run(tests.toString()), "test: ");
        ExecutorService workers = Executors.newFixedThreadPool(Runtime.getRuntime().availableProcessors());
        List<Future<Set<String>>> found = new ArrayList<>();
        List<Way> ways = readWays(whole);
        for (Way way : ways) {
            Callable<Set<String>> work = () -> broken(way, tests);
            found.add(workers.submit(work));
        }
        Set<String> seen = new HashSet<>();
        int wrong = 0;
        for (int i = 0; i < ways.size(); i++) {
            wrong += missed(ways.get(i), found.get(i).get(), names, seen);
        }
        workers.shutdown();
        for (String name : new TreeSet<>(names)) {
            if (!seen.contains(name)) {
                wrong++;
                System.out.println("no way breaks: " + name);
            }
        }
        System.out.println(ways.size() + " ways to break the class, " + names.size() + " sentences, " + wrong + " missed");
        System.exit(wrong == 0 ? 0 : 1);
    }

    private static List<Way> readWays(String whole) throws IOException {
        List<Way> ways = new ArrayList<>();
        Way way = null;
        for (String line : Files.readAllLines(WAYS, StandardCharsets.UTF_8)) {
            if (line.isEmpty() || line.startsWith("#")) {
                way = null;
                continue;
            }
            if (way == null) {
                way = new Way(ways.size() + 1, whole);
                ways.add(way);
            }
            way.read(line);
        }
        return ways;
    }

    /** The names of the tests that fail on the class broken in this way. */
    private static Set<String> broken(Way way, Path tests) throws Exception {
        Path folder = Files.createDirectories(FOLDER.resolve("way" + way.number));
        Path source = folder.resolve("HedgeNews.java");
        Files.writeString(source, way.text, StandardCharsets.UTF_8);
        if (way.trouble.isEmpty()) {
            way.trouble = compile(folder, source.toString());
        }
        return way.trouble.isEmpty() ? lines(run(folder + ":" + tests), "broken: ") : new HashSet<>();
    }

    private static int missed(Way way, Set<String> broken, Set<String> names, Set<String> seen) {
        int wrong = 0;
        if (!way.trouble.isEmpty()) {
            wrong++;
            System.out.println("way " + way.number + " " + way.sentences + ":" + way.trouble);
        }
        for (String sentence : way.sentences) {
            boolean isName = false;
            for (String name : names) {
                if (name.startsWith(sentence)) {
                    isName = true;
                    if (broken.contains(name)) {
                        seen.add(name);
                    } else {
                        wrong++;
                        System.out.println("way " + way.number + " is not seen by: " + name);
                    }
                }
            }
            if (!isName) {
                wrong++;
                System.out.println("way " + way.number + " names no test: " + sentence);
            }
        }
        return wrong;
    }

    private static String compile(Path folder, String... what) {
        List<String> all = new ArrayList<>(List.of("-encoding", "UTF-8", "-cp", folder.toString(), "-d", folder.toString()));
        all.addAll(List.of(what));
        ByteArrayOutputStream out = new ByteArrayOutputStream();
        int failed = ToolProvider.getSystemJavaCompiler().run(null, out, out, all.toArray(new String[0]));
        return failed == 0 ? "" : " does not compile: " + out;
    }

    private static List<String> run(String classPath) throws Exception {
        Path out = Files.createTempFile(FOLDER, "out", ".txt");
        Process process = new ProcessBuilder("java", "-Dnames=true", "-cp", classPath, "BoundsTest")
            .redirectErrorStream(true).redirectOutput(out.toFile()).start();
        if (!process.waitFor(MOST_SECONDS, TimeUnit.SECONDS)) {
            process.destroyForcibly();
        }
        List<String> lines = Files.readAllLines(out, StandardCharsets.UTF_8);
        Files.delete(out);
        return lines;
    }

    private static Set<String> lines(List<String> all, String beginning) {
        Set<String> rests = new HashSet<>();
        for (String line : all) {
            if (line.startsWith(beginning)) {
                rests.add(line.substring(beginning.length()));
            }
        }
        return rests;
    }
}
