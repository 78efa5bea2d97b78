import java.io.IOException;
import java.nio.file.Files;
import java.nio.file.Path;
import java.util.BitSet;
import java.util.regex.Matcher;
import java.util.regex.Pattern;

/** The document by its promises (0 is all that stands ahead of the first one), and what of it the tests quote. */
final class Document {
    static final int PROMISES = 28;

    private static final Path PLACE = Path.of("../shared/DOC.md");
    // Words by which a sentence names an edge: one that has some is to be quoted by a test.
    private static final Pattern EDGE = Pattern.compile(
        "\\b(UNKNOWN|OUTSIDE|STATE|FULL|NONE|above|below|alone|at most|at least|empty|wrapping|its rest|like ones|if there|if none)\\b"
            + "|\\d to \\d");

    private final String[] sections = new String[PROMISES + 1];
    private final BitSet[] quoted = new BitSet[PROMISES + 1];

    Document() throws IOException {
        String text = Files.readString(PLACE);
        int from = 0;
        for (int i = 0; i <= PROMISES; i++) {
            int to = text.indexOf(i < PROMISES ? "## Promise " + (i + 1) + ":" : "## Not promised", from);
            if (to < 0) {
                throw new IOException("no end of promise " + i + " in " + PLACE);
            }
            sections[i] = text.substring(from, to).replaceAll("\\s+", " ");
            quoted[i] = new BitSet();
            from = to;
        }
    }

    /** The words of a promise, each white space as one blank. */
    String section(int promise) {
        return sections[promise];
    }

    boolean quote(int promise, String words) {
        int at = sections[promise].indexOf(words);
        if (at >= 0) {
            quoted[promise].set(at, at + words.length());
        }
        return at >= 0;
    }

    /** What of a promise names an edge and is quoted by no test; empty, if all is. */
    String notQuoted(int promise) {
        StringBuilder all = new StringBuilder();
        Matcher edges = EDGE.matcher(sections[promise]);
        while (edges.find()) {
            if (quoted[promise].nextClearBit(edges.start()) < edges.end()) {
                int end = Math.min(edges.end() + 30, sections[promise].length());
                all.append('[').append(sections[promise], edges.start(), end).append("] ");
            }
        }
        return all.toString();
    }
}
