import java.io.IOException;
import java.nio.charset.StandardCharsets;
import java.nio.file.DirectoryStream;
import java.nio.file.Files;
import java.nio.file.Path;
import java.util.Set;
import java.util.TreeSet;
import java.util.regex.Matcher;
import java.util.regex.Pattern;

/** Each sentence of the document's Terms and promises is quoted by a test of its edges, but for the bare words below. */
public final class SentenceTest {
    /** What links sentences, and lists of words whose single ones are quoted elsewhere. */
    private static final Set<String> LINKS = Set.of("TEXTS", "TOKENS:", ";", ",", ":", "```text", "```", "FAULTS that are thrown:", "FLOWS add to these:", "or by a LIMIT:", "CODE:", "RUNS:",
        "null; load k; store k;", "dup; pop; swap; add sub mul div rem and or xor shl shr ushr; neg; goto L;",
        "new C; get C NAME; put C NAME (fields); gets C NAME; puts C NAME (statics); ints; refs (arrays, of a length); iget; iput; rget; rput; length; call C NAME; virt C NAME; ret; throw; is C; as C; source k; sink k;",
        "Ahead of an INSTRUCTION that is come to, there are a STACK (a row of kinds) and what each local may be (int, ref, unset: one or several of them). At first INSTRUCTION 0 is come to",
        "Else what is behind it is come to:", "``` ==== II. RUNS", "==== III. TOLD CLOSER", "A RUN of a METHOD:", "Of the latest RUN: what 0 how it ended,",
        "Of an OBJECT or ARRAY of the latest RUN:", "Of a FIELD or element", "Of a CLASS:", "Of a METHOD:", "");

    public static void main(String[] args) throws IOException {
        if (!Bench.hasDocument()) {
            System.out.println("the document is not at hand");
            return;
        }
        String document = Bench.document();
        boolean[] quoted = new boolean[document.length()];
        Set<String> promises = new TreeSet<>();
        try (DirectoryStream<Path> tests = Files.newDirectoryStream(Path.of("src/test/java"), "*EdgeTest.java")) {
            for (Path test : tests) {
                markQuotes(Files.readString(test, StandardCharsets.UTF_8), document, quoted, promises);
            }
        }
        int from = document.indexOf("## Terms") + "## Terms".length();
        int to = document.indexOf("## Not promised");
        StringBuilder left = new StringBuilder();
        for (int i = from; i < to; i++) {
            left.append(quoted[i] ? '\n' : document.charAt(i));
        }
        String bare = left.toString().replaceAll("## Promise \\d+: [A-Za-z ]+ `[^`]*`:", "\n");
        for (String part : bare.split("\n+")) {
            Bench.due("a sentence that is a link, or quoted by a test: " + part, LINKS.contains(part.trim()), true);
        }
        for (int promise = 1; promise <= 18; promise++) {
            Bench.due("a test of the edges of promise " + promise, promises.contains(Integer.toString(promise)), true);
        }
        Bench.finish();
    }

    private static void markQuotes(String test, String document, boolean[] quoted, Set<String> promises) {
        Matcher quotes = Pattern.compile("Bench\\.sentence\\((\\d+), \"(.*)\"\\);").matcher(test);
        while (quotes.find()) {
            String words = quotes.group(2);
            int at = document.indexOf(words);
            Bench.due("the document has: " + words, at >= 0, true);
            for (int i = 0; at >= 0 && i < words.length(); i++) {
                quoted[at + i] = true;
            }
            promises.add(quotes.group(1));
        }
    }
}
