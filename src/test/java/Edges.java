import java.io.IOException;
import java.io.UncheckedIOException;
import java.nio.file.Files;
import java.nio.file.Path;
import java.util.ArrayList;
import java.util.LinkedHashMap;
import java.util.LinkedHashSet;
import java.util.List;
import java.util.Map;
import java.util.Set;

/**
 * Goes through the sentences of ../shared/DOC.md: each sentence of the sections that a test opens has to be named,
 * with a test of its own or as one that names no boundary case.
 */
final class Edges {
    private static final Path DOCUMENT = Path.of("../shared/DOC.md");

    private final Map<String, Set<String>> document = readDocument();
    private final Check check;
    private String section = "";
    private Set<String> missing = new LinkedHashSet<>();

    Edges(String name) {
        check = new Check(name);
    }

    /** Returns the sentences of each section, without those that only tell under which heading calls stand. */
    static Map<String, Set<String>> readDocument() {
        Map<String, Set<String>> sections = new LinkedHashMap<>();
        Set<String> sentences = new LinkedHashSet<>();
        try {
            for (String line : Files.readAllLines(DOCUMENT)) {
                if (line.startsWith("## ")) {
                    sentences = new LinkedHashSet<>();
                    sections.put(line.substring(3), sentences);
                } else if (!line.isBlank() && !line.startsWith("Ahead of the calls")) {
                    sentences.addAll(sentencesOf(line));
                }
            }
        } catch (IOException e) {
            throw new UncheckedIOException(e);
        }
        return sections;
    }

    /** A line can begin with a call's signature, or else with the title of a paragraph of the terms. */
    private static List<String> sentencesOf(String line) {
        String text = line.startsWith("`")
                ? line.replaceFirst("^`[^`]*`: ", "")
                : line.replaceFirst("^[A-Z][a-z]+( [a-z]+)*\\. (?=[A-Z])", "");
        return new ArrayList<>(List.of(text.split("(?<=\\.) ")));
    }

    void section(String heading) {
        closeSection();
        section = heading;
        missing = new LinkedHashSet<>(document.getOrDefault(heading, Set.of()));
        if (missing.isEmpty()) {
            check.wrong("there is no section " + heading);
        }
    }

    void noEdge(String... sentences) {
        for (String each : sentences) {
            name(each);
        }
    }

    void sentence(String sentence, Runnable test) {
        name(sentence);
        int before = check.answers();
        check.about(section + ": " + sentence + ": ");
        test.run();
        check.about("");
        if (check.answers() == before) {
            check.wrong(section + " has no test of: " + sentence);
        }
    }

    Check check() {
        return check;
    }

    void end() {
        closeSection();
        check.end();
    }

    /** A long sentence can be named by how it begins, with ".." behind. */
    private void name(String sentence) {
        String start = sentence.endsWith("..") ? sentence.substring(0, sentence.length() - 2) : null;
        boolean isNamed = start == null
                ? missing.remove(sentence)
                : missing.removeIf(each -> each.startsWith(start));
        if (!isNamed) {
            check.wrong(section + " does not say, or has been tested already: " + sentence);
        }
    }

    private void closeSection() {
        for (String each : missing) {
            check.wrong(section + " also says: " + each);
        }
        missing = new LinkedHashSet<>();
    }
}
