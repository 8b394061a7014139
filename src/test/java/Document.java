import java.io.IOException;
import java.nio.file.Files;
import java.nio.file.Path;
import java.util.ArrayList;
import java.util.List;
import java.util.regex.Matcher;
import java.util.regex.Pattern;

/** The sentences of ../shared/DOC.md, to see that each of them has a test that quotes it. */
final class Document {
    /** The section of what all promises rest on. */
    static final int DESCRIPTION = 0;
    private static final int NO_SECTION = -1;
    private static final Pattern PROMISE = Pattern.compile("## Promise (\\d+):.*");
    /** Headings, signatures, the examples (ExamplesTest has them), and words that promise nothing. */
    private static final Pattern NO_PROMISE = Pattern.compile(
            "[A-Z ,]+|`.*`|---- .*|The following actions exist\\.|Each is possible on a range under its condition"
            + "|the text after the colon says what it does\\.|The constants:|The constructor and the methods follow.*");

    static final class Sentence {
        final int section;
        final String text;
        boolean quoted;

        Sentence(int section, String text) {
            this.section = section;
            this.text = text;
        }
    }

    final List<Sentence> sentences = new ArrayList<>();
    private final boolean readable;

    /** Where the document can not be read, the tests run all the same, and every quote is believed. */
    Document(Path path) throws IOException {
        readable = Files.isReadable(path);
        if (readable) {
            read(path);
        } else {
            System.out.println("without " + path + " no quote is looked up");
        }
    }

    private void read(Path path) throws IOException {
        int section = NO_SECTION;
        StringBuilder paragraph = new StringBuilder();
        for (String line : Files.readAllLines(path)) {
            boolean heading = line.startsWith("## ");
            if (heading || line.isBlank() || line.startsWith("- ")) {
                addSentences(section, paragraph.toString().trim());
                paragraph.setLength(0);
            }
            if (heading) {
                section = sectionOf(line);
            } else {
                paragraph.append(line).append(' ');
            }
        }
    }

    private static int sectionOf(String heading) {
        Matcher promise = PROMISE.matcher(heading);
        if (promise.matches()) {
            return Integer.parseInt(promise.group(1));
        }
        return heading.equals("## Description") ? DESCRIPTION : NO_SECTION;
    }

    private void addSentences(int section, String paragraph) {
        if (section == NO_SECTION || paragraph.startsWith("Examples:")) {
            return;
        }
        for (String text : paragraph.split("(?<=[.)])\\s+(?=[A-Z\"(])|;\\s+")) {
            if (!text.isEmpty() && !NO_PROMISE.matcher(text).matches()) {
                sentences.add(new Sentence(section, text));
            }
        }
    }

    /** Marks what a test quotes for a promise; tells whether the document says it there. */
    boolean quote(int promise, String words) {
        boolean found = false;
        for (Sentence sentence : sentences) {
            boolean here = sentence.section == promise || sentence.section == DESCRIPTION;
            if (here && sentence.text.contains(words)) {
                sentence.quoted = true;
                found = true;
            }
        }
        return found || !readable;
    }
}
