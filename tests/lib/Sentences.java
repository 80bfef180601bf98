import java.io.IOException;
import java.io.UncheckedIOException;
import java.nio.file.Files;
import java.nio.file.Path;
import java.util.ArrayList;
import java.util.HashSet;
import java.util.LinkedHashMap;
import java.util.List;
import java.util.Map;
import java.util.Set;

/**
 * The sentences of the document, section by section. Each must be named: by a test, or as one that
 * tells of no boundary; and what is named must stand in the document.
 */
final class Sentences {
    private static final Path DOCUMENT = Path.of("../shared/DOC.md");

    private final Map<String, List<String>> sections = new LinkedHashMap<>();
    private final Set<String> named = new HashSet<>();
    private String section = "";
    private int tests = 0;
    private int wrong = 0;

    Sentences() {
        String text = withoutCode();
        for (String part : text.split("(?m)^#+ ")) {
            String[] headAndRest = part.split("\n", 2);
            List<String> all = new ArrayList<>();
            for (String paragraph : (headAndRest.length > 1 ? headAndRest[1] : "").split("\n\n|\n(?=- )")) {
                addSentences(paragraph.strip(), all);
            }
            sections.put(headAndRest[0].strip(), all);
        }
    }

    private static String withoutCode() {
        try {
            return Files.readString(DOCUMENT).replaceAll("(?s)```.*?```", "");
        } catch (IOException e) {
            throw new UncheckedIOException(e);
        }
    }

    /** A line of a list is one sentence; what a call returns is told by clauses. */
    private static void addSentences(String paragraph, List<String> all) {
        String ends = paragraph.startsWith("- ") ? "\n" : paragraph.startsWith("Returns ") ? ";\\s" : "(?<=\\.)\\s";
        for (String sentence : paragraph.split(ends)) {
            if (!sentence.isBlank()) {
                all.add(sentence.strip().replaceAll("\\.$", ""));
            }
        }
    }

    /** What is named and tested now is of this section. */
    void in(String name) {
        finishSection();
        section = name;
        if (!sections.containsKey(name)) {
            fail("the document has no such section");
        }
    }

    /** A test of a sentence, told by words that stand in it alone. */
    void test(String words, Runnable calls) {
        name(words);
        tests++;
        calls.run();
        for (String fault : Tried.takeFaults()) {
            fail(words + ": " + fault);
        }
    }

    /** Sentences that name no boundary case. */
    void plain(String... sentences) {
        for (String words : sentences) {
            name(words);
        }
    }

    private void name(String words) {
        List<String> all = sections.getOrDefault(section, List.of());
        List<String> found = all.contains(words) ? List.of(words)
            : all.stream().filter(each -> each.contains(words)).toList();
        if (found.size() != 1) {
            fail(words + ": stands in " + found.size() + " sentences");
        }
        named.addAll(found);
    }

    private void fail(String what) {
        wrong++;
        System.out.println(section + ": " + what);
    }

    private void finishSection() {
        for (String sentence : sections.getOrDefault(section, List.of())) {
            if (!named.contains(sentence)) {
                fail("no test for: " + sentence);
            }
        }
        named.clear();
    }

    void finish() {
        finishSection();
        System.out.println(tests + " tests of sentences, " + wrong + " faults");
        if (wrong != 0) {
            System.exit(1);
        }
    }
}
