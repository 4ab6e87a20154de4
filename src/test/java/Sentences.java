import java.io.IOException;
import java.nio.file.Files;
import java.nio.file.Path;
import java.util.LinkedHashMap;
import java.util.Map;

/**
 * Tests that are named by the words of the document which they test, and by the section where those stand. That each
 * name can be found there, once, and that no words of a section are left without a test, is tested, too.
 */
class Sentences extends Due {
    private static final Path DOCUMENT = Path.of("../shared/DOC.md");
    private static final Map<String, String> SECTIONS = new LinkedHashMap<>();
    private static final Map<String, boolean[]> SAID = new LinkedHashMap<>();
    private static int tests = 0;

    private static void readDocument() {
        StringBuilder text = new StringBuilder();
        String title = "";
        try {
            for (String line : Files.readAllLines(DOCUMENT)) {
                if (line.startsWith("## ")) {
                    keep(title, text);
                    title = line.substring(3).replaceFirst(":.*", "");
                } else if (!line.startsWith("```")) {
                    text.append(line).append(' ');
                }
            }
        } catch (IOException e) {
            due("the document can't be read: " + e, false, true);
        }
        keep(title, text);
    }

    private static void keep(String title, StringBuilder text) {
        String words = text.toString().replaceAll("\\s+", " ").trim();
        SECTIONS.put(title, words);
        SAID.put(title, new boolean[words.length()]);
        text.setLength(0);
    }

    /** Notes that these words are said; they stand in the section just once, so that they can be found. */
    private static void find(String section, String words) {
        if (SECTIONS.isEmpty()) {
            readDocument();
        }
        String text = SECTIONS.getOrDefault(section, "");
        int at = text.indexOf(words);
        due("these words stand in the document", at >= 0, true);
        due("these words stand there once", text.indexOf(words, at + 1), -1);
        for (int i = 0; at >= 0 && i < words.length(); i++) {
            SAID.get(section)[at + i] = true;
        }
    }

    static void test(String section, String words, Runnable body) {
        about = section + ", \"" + words + "\": ";
        tests++;
        find(section, words);
        int before = answers;
        try {
            body.run();
        } catch (RuntimeException e) {
            due("no call fails, but " + e, false, true);
        }
        due("something is due", answers > before, true);
        about = "";
    }

    /** Every word of the section is in the name of a test. */
    static void allSaid(String section) {
        String text = SECTIONS.getOrDefault(section, "");
        StringBuilder left = new StringBuilder();
        for (int i = 0; i < text.length(); i++) {
            if (!SAID.get(section)[i] && Character.isLetterOrDigit(text.charAt(i))) {
                left.append(text.charAt(i));
            }
        }
        due(section + ": words without a test: " + left, left.length(), 0);
    }

    static void endOfTests() {
        System.out.println(tests + " tests");
        end();
    }
}
