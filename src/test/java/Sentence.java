import java.io.IOException;
import java.nio.file.Files;
import java.nio.file.Path;
import java.util.ArrayList;
import java.util.BitSet;
import java.util.List;

/**
 * Tests tell by of() which sentence of the document they try: its promise's number (0: the Terms) and
 * its words. Words that do not stand there, and words there that no test tells, are wrong answers.
 */
final class Sentence {
    static final int PROMISES = 44;
    private static final Path DOCUMENT = Path.of("..", "shared", "DOC.md");

    private static final List<String> SECTIONS = new ArrayList<>();
    private static final List<BitSet> TOLD = new ArrayList<>();
    private static String open = "";
    private static int checksAhead = 0;
    private static int sentences = 0;

    private Sentence() {
    }

    static void readDocument() throws IOException {
        String all = Files.readString(DOCUMENT);
        int used = all.indexOf("An object is used for");
        int face = all.indexOf("## The public face");
        int terms = all.indexOf("==== I.");
        int promises = all.indexOf("## Promise 1:");
        addSection(all.substring(used, face) + all.substring(terms, promises));
        for (int i = 1; i <= PROMISES; i++) {
            int from = all.indexOf("## Promise " + i + ":");
            int to = all.indexOf("\n## ", from);
            String section = all.substring(from, to);
            addSection(section.substring(section.indexOf("`: ") + 3));
        }
    }

    private static void addSection(String words) {
        String plain = words.replaceAll("```(text)?|==== [IV]+\\.", " ");
        SECTIONS.add(plain.replaceAll("\\s+", " ").trim());
        TOLD.add(new BitSet());
    }

    /** What is checked from here on tries these words of a promise. */
    static void of(int promise, String words) {
        close();
        open = words;
        checksAhead = Check.checks();
        sentences++;
        int from = SECTIONS.get(promise).indexOf(words);
        Check.about("");
        Check.due("words that stand in promise " + promise + ": " + words, true, from >= 0);
        if (from >= 0) {
            TOLD.get(promise).set(from, from + words.length());
        }
        Check.about("Promise " + promise + ", \"" + words + "\": ");
        checksAhead = Check.checks();
    }

    private static void close() {
        Check.about("");
        if (!open.isEmpty()) {
            Check.due("a check of: " + open, true, Check.checks() > checksAhead);
        }
    }

    static void finish() {
        close();
        open = "";
        for (int promise = 0; promise <= PROMISES; promise++) {
            String words = SECTIONS.get(promise);
            BitSet told = TOLD.get(promise);
            for (int i = told.nextClearBit(0); i < words.length(); i = told.nextClearBit(i)) {
                int next = told.nextSetBit(i);
                int end = next < 0 ? words.length() : next;
                String rest = words.substring(i, end).trim();
                Check.due("words of promise " + promise + " without a test: " + rest, 0, rest.length());
                i = end;
            }
        }
        System.out.println(sentences + " sentences");
    }
}
