import java.io.IOException;
import java.lang.reflect.Method;
import java.nio.file.Files;
import java.nio.file.Path;
import java.util.ArrayList;
import java.util.Arrays;
import java.util.LinkedHashMap;
import java.util.List;
import java.util.Map;
import java.util.stream.Stream;

/**
 * The tests of the boundary cases quote the document. Each quote must stand in it, under its test's
 * promise or among the terms, and all words of the promises and of the terms must be quoted.
 */
public final class SentencesTest {
    private static final String TERMS = "Terms";
    private static final String WHOLE = "What it is";

    /** Words that promise nothing beyond what is quoted around them. */
    private static final List<String> EXPLANATIONS = List.of(
        "NETS THAT ARE BUILT IN Each of them has its knots and threads as they are told here, in this order:",
        "NETS", "COLOURS", "TAKING OUT", "COVERS", "TEXTS", "HISTORY", "ERRORS", "Errors are reported by the constants below.",
        "The chain of a thread that has a colour, with another colour, is",
        "The first least set is",
        "Tells of good paintings of the whole net.", "Tells of the circles that are left by a cover.",
        "Returns the number");

    private static int wrong = 0;

    private static void wrong(String message) {
        wrong++;
        System.out.println(message);
    }

    /** The document's sections by their titles; of a promise the title is "Promise 7". */
    private static Map<String, String> sections(String document) {
        Map<String, String> sections = new LinkedHashMap<>();
        for (String section : document.split("\n## ")) {
            int end = section.indexOf('\n');
            String title = section.substring(0, end).replaceAll(":.*", "");
            String text = section.substring(end).replace("`: - `", "`: `").replace("`", "").replaceAll("(?m)^- ", "").replaceAll("\\s+", " ");
            sections.put(title, text);
        }
        return sections;
    }

    private static List<Method> tests() throws IOException, ClassNotFoundException {
        List<Method> tests = new ArrayList<>();
        try (Stream<Path> files = Files.list(Path.of("src/test/java"))) {
            for (Path file : files.sorted().toList()) {
                String name = file.getFileName().toString();
                if (name.endsWith("BoundaryTest.java")) {
                    for (Method m : Class.forName(name.replace(".java", "")).getDeclaredMethods()) {
                        if (m.getName().startsWith("promise")) {
                            tests.add(m);
                        }
                    }
                }
            }
        }
        return tests;
    }

    /** Takes the quote out of the section; tells whether it was there. */
    private static boolean quoted(Map<String, String> sections, Map<String, String> rest, String title, String quote) {
        String text = sections.get(title);
        if (text == null || !text.contains(quote)) {
            return false;
        }
        String left = rest.getOrDefault(title, text);
        char[] marked = left.toCharArray();
        for (int at = text.indexOf(quote); at >= 0; at = text.indexOf(quote, at + 1)) {
            Arrays.fill(marked, at, at + quote.length(), ' ');
        }
        rest.put(title, new String(marked));
        return true;
    }

    private static void checkQuotes(Map<String, String> sections, Map<String, String> rest) throws Exception {
        for (Method test : tests()) {
            int promise = Integer.parseInt(test.getName().substring(7, 9));
            Sentence sentence = test.getAnnotation(Sentence.class);
            if (sentence == null) {
                wrong(test.getName() + " quotes nothing");
                continue;
            }
            for (String quote : sentence.value()) {
                boolean promised = quoted(sections, rest, "Promise " + promise, quote);
                boolean told = quoted(sections, rest, TERMS, quote);
                if (!promised && !told && !quoted(sections, rest, WHOLE, quote)) {
                    wrong(test.getName() + " quotes what the document does not say: " + quote);
                }
            }
        }
    }

    private static String withoutExplanations(String text) {
        String left = text.replaceAll("int \\w+\\([^)]*\\):|KnotStripes\\(\\):", " ")
            .replaceAll("Ahead of the calls.*?what is told\\.|Ahead of the calls .*?---- [a-z ]+\\.", " ")
            .replace("The constants:", " ");
        for (String explanation : EXPLANATIONS) {
            left = left.replace(explanation, " ");
        }
        return left.replaceAll("[\\s.,;:]+", " ").trim();
    }

    private static void checkRest(Map<String, String> sections, Map<String, String> rest) {
        for (String title : sections.keySet()) {
            if (title.equals(TERMS) || title.startsWith("Promise ")) {
                String left = withoutExplanations(rest.getOrDefault(title, sections.get(title)));
                if (!left.isEmpty()) {
                    wrong(title + ": no boundary case quotes [" + left + "]");
                }
            }
        }
    }

    public static void main(String[] args) throws Exception {
        Map<String, String> sections = sections(Files.readString(Path.of("../shared/DOC.md")));
        Map<String, String> rest = new LinkedHashMap<>();
        checkQuotes(sections, rest);
        checkRest(sections, rest);
        System.out.println(wrong == 0 ? "all sentences are quoted" : wrong + " quotes are missing or not in the document");
        if (wrong != 0) {
            System.exit(1);
        }
    }
}
