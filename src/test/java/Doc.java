import java.nio.file.Files;
import java.nio.file.Path;
import java.util.BitSet;
import java.util.regex.Matcher;
import java.util.regex.Pattern;

/** The document's own words: which of them the edge tests have quoted, and which are left. */
final class Doc {
    static final int TERMS = 0;
    static final int PROMISES = 37;

    private final String text;
    private final BitSet quoted = new BitSet();

    Doc(Path path) throws Exception {
        text = Files.readString(path);
    }

    /** Where a section begins behind its heading, or -1. */
    private int begin(int promise) {
        String heading = promise == TERMS ? "\n## Terms\n" : "\n## Promise " + promise + ": ";
        int at = text.indexOf(heading);
        return at < 0 ? -1 : text.indexOf('\n', at + 1);
    }

    private int end(int promise) {
        int next = text.indexOf("\n## ", begin(promise));
        return next < 0 ? text.length() : next;
    }

    /** Marks the words, wherever the section has them; false if it has not. */
    boolean quote(int promise, String words) {
        int at = begin(promise) < 0 ? -1 : text.indexOf(words, begin(promise));
        boolean isThere = false;
        while (at >= 0 && at + words.length() <= end(promise)) {
            quoted.set(at, at + words.length());
            isThere = true;
            at = text.indexOf(words, at + 1);
        }
        return isThere;
    }

    /** The first words of a section that nobody has quoted, or none. */
    String leftOf(int promise) {
        BitSet aside = new BitSet();
        Matcher frame = Pattern.compile("`int [^`]*`:|`FootLights\\(\\)`:|Ahead of the calls [^\n]*|```(text)?|={8} \\d").matcher(text);
        while (frame.find()) {
            aside.set(frame.start(), frame.end());
        }
        for (int i = begin(promise); i < end(promise); i++) {
            if (Character.isLetterOrDigit(text.charAt(i)) && !quoted.get(i) && !aside.get(i)) {
                return text.substring(i, Math.min(end(promise), i + 60)).replace('\n', ' ');
            }
        }
        return "";
    }
}
