import java.nio.file.Files;
import java.nio.file.Path;
import java.util.regex.Matcher;
import java.util.regex.Pattern;

/** The rules of ../shared/LANGUAGE.md that can be seen in the text of the program. */
public final class LanguageTest {
    private static final Due due = new Due("LanguageTest");

    public static void main(String[] args) throws Exception {
        String source = Files.readString(Path.of("src/main/java/FootLights.java"));
        String code = source.replaceAll("(?s)/\\*.*?\\*/", "").replaceAll("//[^\n]*", "");
        String[] forbidden = {"\\bthrow\\b", "\\bthrows\\b", "\\btry\\b", "\\bcatch\\b", "\\bsynchronized\\b",
            "\\bassert\\b", "\\bimport\\b", "\\bpackage\\b", "->", "::", "\\bprotected\\b", "Exact\\b", "\\bvolatile\\b",
            "\\bstatic\\s*\\{", "\\bThread\\b", "\\bRandom\\b", "\\bwhile\\b", "\\bequals\\b", "\\bhashCode\\b", "\""};
        for (String word : forbidden) {
            due.holds("no " + word, !Pattern.compile(word).matcher(code).find());
        }
        due.holds("signs 1 to 127 alone", source.chars().allMatch(c -> c > 0 && c < 128));
        Matcher classes = Pattern.compile("\\bclass\\s+\\w+").matcher(code);
        int number = 0;
        while (classes.find()) {
            number++;
        }
        due.holds("some twelve classes: " + number, number <= 12);
        methodsAreShort(code);
        due.close();
    }

    /** A method begins with a line that ends in ") {" and a modifier or type, and ends at the brace of its depth. */
    private static void methodsAreShort(String code) {
        String[] lines = code.split("\n");
        Pattern head = Pattern.compile("^( +)(?!if|for|switch|else|return|\\})[\\w\\[\\] ]+\\w\\(([^()]*)\\) \\{$");
        for (int i = 0; i < lines.length; i++) {
            Matcher m = head.matcher(lines[i]);
            if (!m.matches()) {
                continue;
            }
            int end = i;
            while (end < lines.length && !lines[end].equals(m.group(1) + "}")) {
                end++;
            }
            due.holds("short: " + lines[i].trim(), end - i < 60);
            due.holds("seven parameters: " + lines[i].trim(), m.group(2).split(",").length <= 7);
        }
    }
}
