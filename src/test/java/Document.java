import java.io.IOException;
import java.nio.file.Files;
import java.nio.file.Path;
import java.util.ArrayList;
import java.util.List;
import java.util.regex.Matcher;
import java.util.regex.Pattern;

/** The document's sentences, and which of them tests have quoted. Without a document every quotation is good. */
final class Document {
    private static final int PROMISES = 58;

    /** Section 0: what stands ahead of the promises and is no face; each with one blank where it has blanks or lines. */
    private final String[] sections = new String[PROMISES + 1];
    private final boolean[][] quoted = new boolean[PROMISES + 1][];

    Document() {
        String all = text(Path.of("../shared/DOC.md"));
        sections[0] = between(all, "An object is used", "## The public face") + " "
            + between(all, "Answers below 0", "Ahead of the calls");
        sections[0] = sections[0].replaceAll("```(text)?|======== \\d", "#");
        for (int p = 1; p <= PROMISES; p++) {
            String section = between(all, "## Promise " + p + ":", p == PROMISES ? "## Not promised" : "## Promise");
            Matcher signature = Pattern.compile("^.*?`.*?`: ").matcher(section);
            sections[p] = signature.replaceFirst("");
        }
        for (int p = 0; p <= PROMISES; p++) {
            quoted[p] = new boolean[sections[p].length()];
        }
    }

    private static String text(Path file) {
        try {
            return Files.readString(file).replaceAll("\\s+", " ");
        } catch (IOException e) {
            System.out.println("the document can't be read, so quotations aren't looked up: " + e);
            return "";
        }
    }

    private static String between(String all, String from, String to) {
        int start = all.indexOf(from);
        int end = start < 0 ? -1 : all.indexOf(to, start + from.length());
        return end < 0 ? "" : all.substring(start, end);
    }

    /** Whether a sentence stands in a promise's section, or else ahead of all. */
    boolean quote(int promise, String sentence) {
        return sections[0].isBlank() || mark(promise, sentence) || mark(0, sentence);
    }

    private boolean mark(int section, String sentence) {
        int at = sections[section].indexOf(sentence);
        boolean isThere = at >= 0;
        while (at >= 0) {
            for (int i = at; i < at + sentence.length(); i++) {
                quoted[section][i] = true;
            }
            at = sections[section].indexOf(sentence, at + 1);
        }
        return isThere;
    }

    /** What no test has quoted, but for signs. */
    List<String> notQuoted() {
        List<String> left = new ArrayList<>();
        for (int p = 0; p <= PROMISES; p++) {
            StringBuilder s = new StringBuilder();
            for (int i = 0; i < sections[p].length(); i++) {
                s.append(quoted[p][i] ? '\n' : sections[p].charAt(i));
            }
            for (String part : s.toString().split("\n+")) {
                if (part.matches(".*[A-Za-z0-9].*")) {
                    left.add((p == 0 ? "Terms: " : "promise " + p + ": ") + part.trim());
                }
            }
        }
        return left;
    }
}
