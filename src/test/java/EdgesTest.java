import java.io.IOException;
import java.nio.file.Files;
import java.nio.file.Path;
import java.util.Map;
import java.util.TreeMap;
import java.util.regex.Matcher;
import java.util.regex.Pattern;

/**
 * All tests at the document's boundaries. Then the document itself is read: each sentence that a test
 * names must stand in its promise, and no word that tells a boundary may stand where no test names it.
 */
public final class EdgesTest {
    private static final Path DOCUMENT = Path.of("..", "shared", "DOC.md");
    /** What tells a boundary: two numbers with .. between, a refusal, a word of size, of lack, of a choice. */
    private static final Pattern BOUNDARY = Pattern.compile(
        "\\d+ \\.\\. \\d+|(?<![\\w.])-\\d+|\\b(BAD|FULL|STATE|NONE|NO|at most|at first|at least|at which|most|least|first|greatest"
        + "|greater|above|below|behind|ahead|outside|too|none|no|not|nothing|nobody|empty|missing|cut|wrapping|bound|longer"
        + "|long|too early|while|just|alike|without|as far as|any|lowest|less|more than|more|fewer|if|room|unlike|left out"
        + "|as they were|gone|modulo|\\d+)\\b");

    public static void main(String[] args) throws IOException {
        Edges e = new Edges();
        new EdgesOfTerms(e).run();
        new EdgesOfTexts(e).run();
        new EdgesOfPurses(e).run();
        new EdgesOfSwaps(e).run();
        new EdgesOfSheets(e).run();
        int wrong = e.wrong() + notInDocument(e);
        System.out.println("EdgesTest: " + e.sentences().size() + " sentences, " + e.rows() + " rows, " + wrong + " wrong");
        if (wrong != 0) {
            System.exit(1);
        }
    }

    private static int notInDocument(Edges e) throws IOException {
        if (!Files.isReadable(DOCUMENT)) {
            System.out.println("EdgesTest: " + DOCUMENT + " is not there, so the sentences are not looked up");
            return 0;
        }
        Map<Integer, String> sections = sections(Files.readString(DOCUMENT));
        Map<Integer, StringBuilder> unnamed = new TreeMap<>();
        sections.forEach((section, words) -> unnamed.put(section, new StringBuilder(words)));
        int wrong = 0;
        for (Edges.Sentence sentence : e.sentences()) {
            int at = sections.getOrDefault(sentence.section(), "").indexOf(sentence.words());
            if (at < 0) {
                wrong++;
                System.out.println("promise " + sentence.promise() + " has no such sentence: " + sentence.words());
            } else {
                int end = at + sentence.words().length();
                unnamed.get(sentence.section()).replace(at, end, "_".repeat(end - at));
            }
        }
        for (Map.Entry<Integer, StringBuilder> section : unnamed.entrySet()) {
            wrong += boundariesIn(section.getKey(), section.getValue().toString());
        }
        return wrong;
    }

    private static int boundariesIn(int section, String unnamed) {
        int found = 0;
        Matcher m = BOUNDARY.matcher(unnamed);
        while (m.find()) {
            found++;
            String near = unnamed.substring(Math.max(0, m.start() - 40), Math.min(unnamed.length(), m.end() + 40));
            System.out.println("no test names \"" + m.group() + "\" of section " + section + ": .. " + near + " ..");
        }
        return found;
    }

    /** The words of "Terms" (0, with the sentence on 512 calls) and of each promise, each on one line. */
    private static Map<Integer, String> sections(String document) {
        String plain = document.replaceAll("```\\w*|======== \\d", " ").replaceAll("\\s+", " ");
        Map<Integer, String> found = new TreeMap<>();
        found.put(0, between(plain, "images. ", "## The public face") + between(plain, "## Terms", "Ahead of the calls"));
        for (int promise = 1; promise <= 40; promise++) {
            String next = promise < 40 ? "## Promise " + (promise + 1) + ":" : "## Not promised";
            String whole = between(plain, "## Promise " + promise + ":", next);
            found.put(promise, whole.substring(whole.indexOf("`:") + 2));
        }
        return found;
    }

    private static String between(String text, String from, String to) {
        int start = text.indexOf(from);
        int end = start < 0 ? -1 : text.indexOf(to, start);
        return end < 0 ? "" : text.substring(start + from.length(), end);
    }
}
