import java.io.IOException;
import java.io.UncheckedIOException;
import java.nio.charset.StandardCharsets;
import java.nio.file.Files;
import java.nio.file.Path;

/** What the tests share: feeding texts, and telling every answer that is not the one that is due. */
final class Bench {
    final TaintHouse house = new TaintHouse();
    private static int wrong = 0;
    private static int asked = 0;
    private static int sentences = 0;
    private static String quoted = "";
    private static String document = null;
    private static final Path DOCUMENT = Path.of("../shared/DOC.md");

    static void due(String what, long got, long want) {
        asked++;
        if (got != want) {
            wrong++;
            String shown = what.length() > 400 ? what.substring(0, 300) + " .. " + what.substring(what.length() - 80) : what;
            System.out.println(quoted + shown + " answered " + got + ", due is " + want);
        }
    }

    /**
     * Names the sentence of the document that the answers from here on are held against. It must stand there word by
     * word, so that a test whose sentence is changed in the document is found.
     */
    static void sentence(int promise, String words) {
        quoted = "promise " + promise + ", \"" + words + "\": ";
        sentences++;
        if (hasDocument()) {
            due("the document has these words", document().contains(words), true);
        }
    }

    /** Where the document is not at hand, the answers are held against its words all the same. */
    static boolean hasDocument() {
        return Files.isReadable(DOCUMENT);
    }

    /** The document, each of its blanks and line ends one blank. */
    static String document() {
        if (document == null) {
            try {
                document = Files.readString(DOCUMENT, StandardCharsets.UTF_8).replaceAll("\\s+", " ");
            } catch (IOException e) {
                throw new UncheckedIOException(e);
            }
        }
        return document;
    }

    static void due(String what, boolean got, boolean want) {
        due(what, got ? 1 : 0, want ? 1 : 0);
    }

    static void finish() {
        String of = sentences == 0 ? "" : " of " + sentences + " sentences";
        System.out.println(wrong == 0 ? asked + " answers" + of + " are as due" : wrong + " answers are not as due");
        if (wrong != 0) {
            System.exit(1);
        }
    }

    /** Puts the text's bytes on the tape behind what it has; false if there was no room for them. */
    static boolean put(TaintHouse house, String text) {
        int before = house.count(4);
        for (int at = 0; at < text.length(); at += 20) {
            if (!house.feed(word(text, at), word(text, at + 4), word(text, at + 8), word(text, at + 12), word(text, at + 16))) {
                house.end(before);
                return false;
            }
        }
        return house.end(before + text.length());
    }

    private static int word(String text, int at) {
        int number = 0;
        for (int i = at; i < at + 4; i++) {
            number = number << 8 | (i < text.length() ? text.charAt(i) & 255 : 0);
        }
        return number;
    }

    int read(String text) {
        put(house, text);
        return house.text();
    }

    /** A text that is right. */
    Bench right(String text, int methods) {
        due("text of " + text, read(text), methods);
        due("place of " + text, house.place(), -1);
        return this;
    }

    /** One method f of one class A, with these KINDS, RESULT and ITEMS. */
    Bench code(String kinds, String result, String items) {
        return right("class A { method f(" + kinds + ") " + result + " { " + items + " } }", 1);
    }

    Bench wrong(String text, int place) {
        due("text of " + text, read(text), -1 - place);
        due("place of " + text, house.place(), -1);
        return this;
    }

    Bench fault(String text, int kind, int place) {
        due("text of " + text, read(text), -5000 - kind);
        due("place of " + text, house.place(), place);
        return this;
    }

    /** A text with ^ at the place where it is WRONG; the sign is taken out. */
    Bench wrongAt(String marked) {
        return wrong(marked.replace("^", ""), marked.indexOf('^'));
    }

    Bench faultAt(int kind, String marked) {
        return fault(marked.replace("^", ""), kind, marked.indexOf('^'));
    }

    /** ITEMS of a method, with ^ at the place of FAULT 5. */
    Bench codeFault(String kinds, String result, String marked) {
        return faultAt(5, "class A { method f(" + kinds + ") " + result + " { " + marked);
    }

    /** Runs METHOD 0 and asks what result() has, from 0 on. */
    Bench run(int... results) {
        return runOf(0, results);
    }

    Bench runOf(int method, int... results) {
        due("run(" + method + ")", house.run(method), results[0]);
        for (int what = 0; what < results.length; what++) {
            due("result(" + what + ")", house.result(what), results[what]);
        }
        return this;
    }
}
