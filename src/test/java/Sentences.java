import java.io.IOException;
import java.nio.file.Files;
import java.nio.file.Path;
import java.util.ArrayList;
import java.util.BitSet;
import java.util.List;
import java.util.regex.Matcher;
import java.util.regex.Pattern;

/**
 * The sentences of the document that name a boundary: each is quoted ahead of the answers that it asks for.
 * In the end the document is looked through for such sentences that nobody quoted.
 */
final class Sentences {
    private static final Path DOCUMENT = Path.of("../shared/DOC.md");
    /** Words by which the document names a boundary: what is too small, too large, empty, full, wraps around, is refused. */
    private static final Pattern BOUNDARY = Pattern.compile("NONE|-2|-100000|at most|at least|of like ones|[0-9] \\.\\. "
        + "|false if|0 if|1 if|else|not told|by 0|wrapping|modulo|too many|second time|already|at first|no letter"
        + "|as long as can be|once each|till|nothing|nobody|alone|empty|more than|less than|without|can't|none"
        + "|up to|the oldest|told ahead|himself|all, if|0 of 1|or before|the same|stays|below|whole");
    private static final List<String> QUOTES = new ArrayList<>();
    private static int answersBefore = 0;

    private Sentences() {
    }

    /** The answers that follow, up to the next sentence, are those that this one asks for. */
    static void sentence(String quote) {
        close();
        QUOTES.add(quote);
        Due.under("\"" + quote + "\": ");
    }

    private static void close() {
        Due.under("");
        if (!QUOTES.isEmpty()) {
            String last = QUOTES.get(QUOTES.size() - 1);
            Due.due("\"" + last + "\" has answers of its own", Due.seen() > answersBefore, true);
        }
        answersBefore = Due.seen();
    }

    static void finish() throws IOException {
        close();
        if (!Files.exists(DOCUMENT)) {
            System.out.println("the document is not there: what is quoted was not looked for in it");
            return;
        }
        String text = Files.readString(DOCUMENT).replaceAll("\\s+", " ");
        BitSet quoted = new BitSet();
        for (String quote : QUOTES) {
            int at = text.indexOf(quote);
            Due.due("\"" + quote + "\" stands in the document, once", at >= 0 && text.indexOf(quote, at + 1) < 0, true);
            quoted.set(Math.max(at, 0), Math.max(at, 0) + quote.length());
        }
        lookThrough(text, quoted, "An object is used", "## The public face");
        lookThrough(text, quoted, "## Terms", "## Not promised");
    }

    private static void lookThrough(String text, BitSet quoted, String from, String to) {
        Matcher matcher = BOUNDARY.matcher(text);
        matcher.region(text.indexOf(from), text.indexOf(to));
        while (matcher.find()) {
            int begin = Math.max(0, matcher.start() - 60);
            String around = text.substring(begin, Math.min(text.length(), matcher.end() + 30));
            Due.due("a boundary that no test quotes: .." + around + "..", quoted.get(matcher.start()), true);
        }
    }
}
