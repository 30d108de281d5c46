import java.io.IOException;
import java.nio.charset.StandardCharsets;
import java.nio.file.Files;
import java.nio.file.Path;
import java.util.Arrays;

/**
 * The document. A test names the words that it holds the program to; a part of the document whose words
 * are not all named is told as wrong, so that no sentence can be without a test.
 */
final class Doc {
    private static final Path PLACE = Path.of("../shared/DOC.md");

    private final Due due;
    private final String text;
    private final boolean[] named;
    private String heading = "";
    private int from = 0;
    private int to = 0;

    Doc(Due due) {
        this.due = due;
        text = read();
        named = new boolean[text.length()];
    }

    private static String read() {
        try {
            return Files.readString(PLACE, StandardCharsets.UTF_8).replaceAll("\\s+", " ");
        } catch (IOException e) {
            System.out.println("no " + PLACE + " here: the sentences named are not compared with it");
            return "";
        }
    }

    /** What is named from here on stands between these two headings. */
    void section(String heading, String next) {
        this.heading = heading;
        due.part(heading);
        from = text.indexOf(heading) + heading.length();
        to = text.indexOf(next, from);
        if (!text.isEmpty()) {
            due.holds("that the document has it, and then " + next, from >= heading.length() && to >= from);
        }
    }

    /** The answers that follow are due because the document says this. */
    void says(String words) {
        due.part(heading + ", \"" + (words.length() > 90 ? words.substring(0, 90) + ".." : words) + "\"");
        int at = text.indexOf(words, from);
        if (!text.isEmpty()) {
            due.holds("that the document says so", at >= 0 && at + words.length() <= to);
        }
        while (at >= 0 && at + words.length() <= to) {
            Arrays.fill(named, at, at + words.length(), true);
            at = text.indexOf(words, at + 1);
        }
    }

    /** Ends a section: each of its words must have been named. */
    void end() {
        due.part(heading);
        int at = from;
        while (at < to) {
            int end = at;
            while (end < to && !named[end]) {
                end++;
            }
            String open = text.substring(at, end).trim();
            if (open.matches(".*\\w.*")) {
                due.holds("that there is a test of \"" + open + "\"", false);
            }
            at = end + 1;
        }
    }
}
