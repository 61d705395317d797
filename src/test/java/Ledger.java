import java.io.IOException;
import java.nio.file.Files;
import java.nio.file.Path;
import java.util.LinkedHashMap;
import java.util.Map;
import java.util.regex.Matcher;
import java.util.regex.Pattern;

/**
 * The document's sentences, each struck out by the test that quotes it: so a sentence without a test of its own, a test
 * without a question and a quote that the document does not have are all told.
 */
final class Ledger {
    private static final int SHOWN = 40;

    /** By a section's name what no test has quoted yet. */
    private final Map<String, String> open = new LinkedHashMap<>();
    private String section = "";
    private String sentence = "";
    private boolean asked = true;
    private int sentences;
    private int questions;
    private int wrong;

    Ledger(Path document) throws IOException {
        if (!Files.exists(document)) {
            System.out.println("no " + document + ": its sentences can't be struck out");
            return;
        }
        String[] parts = Files.readString(document).split("(?m)^## ");
        for (String part : parts) {
            int end = part.indexOf('\n');
            String title = part.substring(0, Math.max(end, 0)).replaceAll(":.*", "").trim();
            if (title.equals("Terms") || title.startsWith("Promise ")) {
                open.put(title, bare(part.substring(end)));
            } else if (title.equals("What it is")) {
                // Its first paragraph names all that the terms say; the other one is a bound.
                open.put(title, bare(part.substring(part.lastIndexOf("\n\n", part.length() - 3))));
            }
        }
    }

    /** A section without fences, signatures and the numbers of paragraphs. */
    private static String bare(String text) {
        String words = text.replaceAll("```\\w*", " ").replaceAll("(?m)^(I|II|III|IV|V)\\. ", " ");
        return plain(words.replaceAll("(?m)^`[^`]*\\)`:", " "));
    }

    private static String plain(String text) {
        return text.replaceAll("\\s+", " ").trim();
    }

    void section(String name) {
        section = name;
    }

    void promise(int number) {
        section("Promise " + number);
    }

    /** Begins the test of a sentence, with an object of its own. */
    TrainDescriber says(String words) {
        endSentence();
        sentence = words;
        sentences++;
        asked = false;
        String left = open.get(section);
        if (left != null) {
            int at = left.indexOf(plain(words));
            if (at < 0) {
                tell("the document does not say so, or not once more");
            } else {
                open.put(section, left.substring(0, at) + "\n" + left.substring(at + plain(words).length()));
            }
        }
        return new TrainDescriber();
    }

    void due(long want, long got) {
        asked = true;
        questions++;
        if (want != got) {
            tell("answered " + got + ", due is " + want);
        }
    }

    private void tell(String what) {
        wrong++;
        StackTraceElement[] trace = Thread.currentThread().getStackTrace();
        StringBuilder where = new StringBuilder();
        for (StackTraceElement frame : trace) {
            if (frame.getClassName().startsWith("EdgesOf")) {
                where.append(' ').append(frame.getFileName()).append(':').append(frame.getLineNumber());
            }
        }
        if (wrong <= SHOWN) {
            System.out.println(section + ", \"" + sentence + "\":" + where + " " + what);
        }
    }

    private void endSentence() {
        if (!asked) {
            tell("no question");
        }
    }

    void end() {
        endSentence();
        for (Map.Entry<String, String> part : open.entrySet()) {
            Matcher left = Pattern.compile("[^\n]*[A-Za-z0-9][^\n]*").matcher(part.getValue());
            section = part.getKey();
            while (left.find()) {
                sentence = left.group();
                tell("has no test of its own");
            }
        }
        if (wrong != 0) {
            System.out.println("edges: " + wrong + " of " + questions + " answers, quotes are not as due");
            System.exit(1);
        }
        System.out.println("edges: " + sentences + " sentences, all " + questions + " answers are as due");
    }
}
