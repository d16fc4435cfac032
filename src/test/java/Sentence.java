import java.io.IOException;
import java.nio.file.Files;
import java.nio.file.Path;
import java.util.BitSet;
import java.util.LinkedHashMap;
import java.util.Map;

/**
 * Names the promise and the sentence of the document that the answers asked for next stand for. A sentence must be
 * in its promise's section or in one that all promises share, and in the end no words of these may be left over.
 */
final class Sentence {
    private static final Path DOCUMENT = Path.of("../shared/DOC.md");
    private static final int PROMISES = 18;

    /** A section's text in one line, and which of its signs some test has named. */
    private record Section(String text, BitSet named) {
        boolean name(String words) {
            int at = text.indexOf(words);
            if (at >= 0) {
                named.set(at, at + words.length());
            }
            return at >= 0;
        }

        /** The first words that no test has named, or "". */
        String leftOver() {
            int at = named.nextClearBit(0);
            while (at < text.length() && !Character.isLetterOrDigit(text.charAt(at))) {
                at = named.nextClearBit(at + 1);
            }
            int until = named.nextSetBit(at);
            return at >= text.length() ? "" : text.substring(at, until < 0 ? text.length() : until);
        }
    }

    private static final Map<String, Section> SECTIONS = sections();
    private static String label = "";
    private static int askedBefore = -1;
    private static int tests = 0;

    private Sentence() {
    }

    private static Map<String, Section> sections() {
        Map<String, Section> all = new LinkedHashMap<>();
        if (!Files.exists(DOCUMENT)) {
            System.out.println(DOCUMENT + " is not there: its sentences can't be looked up");
            return all;
        }
        try {
            for (String section : Files.readString(DOCUMENT).split("(?m)^## ")) {
                String[] titleAndText = section.split("\n", 2);
                all.put(titleAndText[0].split(":")[0].trim(), new Section(plain(titleAndText), new BitSet()));
            }
        } catch (IOException e) {
            throw new IllegalStateException(e);
        }
        return all;
    }

    /** Without the marks of the page, the numbers of its chapters and the heads of the calls. */
    private static String plain(String[] titleAndText) {
        String text = titleAndText.length < 2 ? "" : titleAndText[1];
        return text.replaceAll("```\\w*", " ").replaceAll("==== \\d", " ").replaceAll("(?m)^`[^`\n]*`: ", " ")
                .replaceAll("\\s+", " ");
    }

    static String label() {
        return label;
    }

    /** A test begins. */
    static void of(int promise, String words) {
        endTest();
        tests++;
        label = "promise " + promise + ", \"" + words + "\": ";
        askedBefore = Check.asked();
        if (!SECTIONS.isEmpty() && !name("Promise " + promise, words)) {
            boolean found = name("What it is", words) | name("The public face", words) | name("Terms", words);
            if (!found) {
                throw new IllegalStateException(label + "the document has no such sentence");
            }
        }
    }

    private static boolean name(String title, String words) {
        Section section = SECTIONS.get(title);
        return section != null && section.name(words);
    }

    private static void endTest() {
        if (askedBefore == Check.asked()) {
            throw new IllegalStateException(label + "no answer was asked for");
        }
    }

    /** Words that only head what follows them. */
    static void heading(String words) {
        if (!SECTIONS.isEmpty() && !name("Terms", words)) {
            throw new IllegalStateException("the document has no such heading: " + words);
        }
    }

    /** Every sentence of every promise, and of what all share, has had its test. */
    static void allNamed() {
        endTest();
        label = "";
        System.out.println(tests + " tests of sentences");
        if (SECTIONS.isEmpty()) {
            return;
        }
        noneLeftOver("Terms");
        for (int promise = 1; promise <= PROMISES; promise++) {
            noneLeftOver("Promise " + promise);
        }
    }

    private static void noneLeftOver(String title) {
        Section section = SECTIONS.get(title);
        Check.alike("words of " + title + " without a test", section == null ? "no such section" : section.leftOver(), "");
    }
}
