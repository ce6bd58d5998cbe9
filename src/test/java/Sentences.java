import java.io.IOException;
import java.nio.charset.StandardCharsets;
import java.nio.file.Files;
import java.nio.file.Paths;
import java.util.ArrayList;
import java.util.LinkedHashMap;
import java.util.List;
import java.util.Map;

/**
 * Tests that bear the name of a sentence of the document. Each sentence has to stand there word by word, and at the
 * end nothing of the document may be left that is neither tested nor told to name no boundary. Run from the
 * project's folder.
 */
final class Sentences {
    private static final String DOCUMENT = "../shared/DOC.md";

    private static final class Section {
        final StringBuilder text = new StringBuilder();
        boolean[] read;
    }

    private static final Map<String, Section> SECTIONS = readDocument();
    private static final List<String> NAMES = new ArrayList<>();
    private static final List<String> BROKEN = new ArrayList<>();
    private static String place = "";

    private Sentences() {
    }

    /** The following sentences stand under this heading: a promise's number, or a section. */
    static void in(String heading) {
        place = heading;
        Checks.due("the document has a section " + heading, SECTIONS.containsKey(heading), true);
    }

    static void says(String sentence, Runnable test) {
        says(sentence, "", test);
    }

    /** A sentence that names several cases has a test for each; the part tells which. */
    static void says(String sentence, String part, Runnable test) {
        markAsRead(sentence);
        String name = place + ": " + sentence + (part.isEmpty() ? "" : " [" + part + "]");
        Checks.due("there is one test alone of " + name, NAMES.contains(name), false);
        NAMES.add(name);
        int wrongBefore = Checks.wrongSoFar();
        int lookedBefore = Checks.lookedSoFar();
        Checks.about(name);
        run(test);
        Checks.due("the test looks at something", Checks.lookedSoFar() > lookedBefore, true);
        Checks.about("");
        if (Checks.wrongSoFar() > wrongBefore) {
            BROKEN.add(name);
        }
    }

    /** What a test lets through is wrong, and no reason to leave the other tests out. */
    private static void run(Runnable test) {
        try {
            test.run();
        } catch (RuntimeException e) {
            Checks.due("an exception that is not due, " + e + ",", 1, 0);
        }
    }

    /** A sentence that needs no test of its bounds. */
    static void namesNoBound(String sentence) {
        markAsRead(sentence);
    }

    static void allAreRead() {
        for (Map.Entry<String, Section> entry : SECTIONS.entrySet()) {
            String left = unread(entry.getValue());
            Checks.due("\"" + left + "\" is left of the section " + entry.getKey() + ": letters and digits", signs(left), 0);
        }
        System.out.println(NAMES.size() + " sentences, or parts of them, have a test of their own");
    }

    /** The names of the tests that found something wrong; and of all of them, if they are asked for. */
    static void tellNames() {
        for (String name : NAMES) {
            if (Boolean.getBoolean("names")) {
                System.out.println("test: " + name);
            }
        }
        for (String name : BROKEN) {
            System.out.println("broken: " + name);
        }
    }

    private static void markAsRead(String sentence) {
        Section section = SECTIONS.get(place);
        int at = section == null ? -1 : section.text.indexOf(sentence);
        Checks.due(place + " says: " + sentence, at >= 0, true);
        for (int i = at; at >= 0 && i < at + sentence.length(); i++) {
            section.read[i] = true;
        }
    }

    private static String unread(Section section) {
        StringBuilder left = new StringBuilder();
        for (int i = 0; i < section.read.length; i++) {
            left.append(section.read[i] ? ' ' : section.text.charAt(i));
        }
        return left.toString().replaceAll("\\s+", " ").trim();
    }

    private static int signs(String text) {
        return text.replaceAll("[^A-Za-z0-9]", "").length();
    }

    private static Map<String, Section> readDocument() {
        Map<String, Section> sections = new LinkedHashMap<>();
        try {
            Section now = null;
            for (String line : Files.readAllLines(Paths.get(DOCUMENT), StandardCharsets.UTF_8)) {
                if (line.matches("(#+|==) .*")) {
                    now = new Section();
                    sections.put(heading(line), now);
                } else if (now != null && !line.startsWith("```")) {
                    add(now.text, line);
                }
            }
        } catch (IOException e) {
            throw new IllegalStateException("the document cannot be read: " + e);
        }
        // FaceTest looks at the first; the second promises nothing
        sections.remove("The public face");
        sections.remove("Not promised");
        for (Section section : sections.values()) {
            section.read = new boolean[section.text.length()];
        }
        return sections;
    }

    private static String heading(String line) {
        String words = line.replaceAll("^(#+|==) ", "");
        return words.startsWith("Promise ") ? words.substring(0, words.indexOf(':')) : words;
    }

    /** Without the call that a promise begins with, and without the lines that name what it takes. */
    private static void add(StringBuilder text, String line) {
        String words = line.replaceAll("^`[^`]*`: ", "").replaceAll("^(- `[a-z]+`: .*)$", "");
        words = words.replace("`", "").trim();
        if (!words.isEmpty()) {
            text.append(text.length() == 0 ? "" : " ").append(words.replaceAll("\\s+", " "));
        }
    }
}
