import java.nio.file.Files;
import java.nio.file.Path;
import java.util.Arrays;
import java.util.LinkedHashMap;
import java.util.Map;
import java.util.regex.Matcher;
import java.util.regex.Pattern;

/**
 * BoundsTest and the document: what its tests quote stands there, and of each section all words are quoted by one of
 * them, so that no sentence is left without a test.
 */
public final class DocTest {
    private static final Check CHECK = new Check("DocTest");
    /** Told by the whole face, or not promised at all: no test can hold the class to these. */
    private static final String[] UNTOLD = {"what later calls answer is free."};

    public static void main(String[] args) throws Exception {
        Map<String, String> sections = sections(Files.readString(Path.of("../shared/DOC.md")));
        Map<String, boolean[]> quoted = new LinkedHashMap<>();
        sections.forEach((name, text) -> quoted.put(name, new boolean[text.length()]));
        for (Sentences.Told told : BoundsTest.all().told()) {
            mark(told.section(), told.sentence(), sections, quoted);
        }
        mark("What it is", UNTOLD[0], sections, quoted);
        for (String name : sections.keySet()) {
            String left = unquoted(sections.get(name), quoted.get(name));
            CHECK.holds(name + ": a test quotes all but «" + left + "»", left.isEmpty());
        }
        CHECK.due("sections", sections.size(), 41 + 7);
        CHECK.end();
    }

    private static void mark(String section, String quote, Map<String, String> sections, Map<String, boolean[]> quoted) {
        String text = sections.getOrDefault(section, "");
        int at = text.indexOf(quote);
        CHECK.holds(section + " tells «" + quote + "»", at >= 0);
        for (; at >= 0; at = text.indexOf(quote, at + 1)) {
            Arrays.fill(quoted.get(section), at, at + quote.length(), true);
        }
    }

    /** Words of which no test's quote has a sign. */
    private static String unquoted(String text, boolean[] quoted) {
        StringBuilder left = new StringBuilder();
        for (int i = 0; i < text.length(); i++) {
            left.append(quoted[i] ? ' ' : text.charAt(i));
        }
        return left.toString().replaceAll("[^\\p{Alnum}]+", " ").strip();
    }

    /** The sections by their names in the tests, each on one line, without headings and signatures. */
    private static Map<String, String> sections(String doc) {
        String terms = between(doc, "\n## Terms\n", "\n## Promise 1:");
        Map<String, String> sections = new LinkedHashMap<>();
        sections.put("What it is", between(doc, "an image.\n", "\n## The public face"));
        sections.put("Terms 1", between(terms, "==== 1 ", "==== 2 "));
        sections.put("Terms 2", between(terms, "==== 2 ", "==== 3 "));
        sections.put("Terms 3", between(terms, "==== 3 ", "\nAnswers: "));
        sections.put("Answers", between(terms, "\nAnswers: ", "\nIn doubt. "));
        sections.put("In doubt", between(terms, "\nIn doubt. ", "\nThe constants: "));
        sections.put("The constants", between(terms, "\nThe constants: ", "\nAhead of the calls"));
        Matcher promise = Pattern.compile("\n## Promise (\\d+): \\w[^\n]*\n\n`[^`]*`: ([^\n]*)").matcher(doc);
        while (promise.find()) {
            sections.put("Promise " + promise.group(1), promise.group(2));
        }
        sections.replaceAll((name, text) -> text.replace("```text", "").replace("```", "").replaceAll("\\s+", " "));
        return sections;
    }

    private static String between(String text, String start, String end) {
        int from = text.indexOf(start);
        int to = text.indexOf(end, from);
        CHECK.holds("the document has «" + start.strip() + "» and «" + end.strip() + "»", from >= 0 && to >= from);
        return from >= 0 && to >= from ? text.substring(from + start.length(), to) : "";
    }
}
