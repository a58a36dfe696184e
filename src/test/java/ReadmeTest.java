import java.nio.file.Files;
import java.nio.file.Path;
import java.util.Set;
import java.util.TreeSet;
import java.util.regex.Matcher;
import java.util.regex.Pattern;

/** README.md: its example is played, and its tables tell every call of the document's face as that writes it. */
public final class ReadmeTest {
    private static final Due due = new Due("ReadmeTest");

    public static void main(String[] args) throws Exception {
        String page = Files.readString(Path.of("README.md"));
        theExampleAnswersAsTold(page);
        everyCallIsTold(page, Files.readString(Path.of("../shared/DOC.md")));
        everyTestIsTold(page);
        due.close();
    }

    private static void theExampleAnswersAsTold(String page) {
        FootLights x = new FootLights();
        Matcher text = Pattern.compile("for \\(char c : \"([^\"]*)\"").matcher(page);
        due.holds("the example tells a text", text.find());
        Due.feed(x, text.group(1));
        Matcher call = Pattern.compile("(?m)^x\\.(\\w+)\\(([^)]*)\\); *// (-?\\d+|[A-Z]+):").matcher(page);
        int calls = 0;
        while (call.find()) {
            calls++;
            due.is(call.group(), Face.call(x, call.group(1), numbers(call.group(2))), answer(call.group(3)));
        }
        due.is("lines of the example", calls, (int) page.lines().filter(line -> line.startsWith("x.")).count());
        due.holds("the example has lines", calls > 0);
    }

    private static int[] numbers(String told) {
        if (told.isEmpty()) {
            return new int[0];
        }
        String[] words = told.split(", ");
        int[] numbers = new int[words.length];
        for (int i = 0; i < words.length; i++) {
            numbers[i] = Integer.parseInt(words[i]);
        }
        return numbers;
    }

    private static int answer(String told) {
        switch (told) {
            case "NONE": return FootLights.NONE;
            case "BAD": return FootLights.BAD;
            case "STATE": return FootLights.STATE;
            case "FULL": return FootLights.FULL;
            default: return Integer.parseInt(told);
        }
    }

    private static void everyCallIsTold(String page, String document) {
        Set<String> face = new TreeSet<>();
        Matcher written = Pattern.compile("(?m)^    public int (\\w+\\([^)]*\\));$").matcher(document);
        while (written.find()) {
            face.add(written.group(1).replace("int ", ""));
        }
        Set<String> told = new TreeSet<>();
        Matcher line = Pattern.compile("(?m)^\\| `(\\w+\\([^)]*\\))` \\|").matcher(page);
        while (line.find()) {
            due.holds(line.group(1) + " is told once", told.add(line.group(1)));
        }
        due.is("calls of the face", face.size(), 36);
        due.holds("the calls that are told: " + told, told.equals(face));
    }

    private static void everyTestIsTold(String page) throws Exception {
        try (var files = Files.list(Path.of("src/test/java"))) {
            files.map(file -> file.getFileName().toString())
                    .filter(name -> name.endsWith("Test.java"))
                    .map(name -> name.substring(0, name.length() - ".java".length()))
                    .forEach(name -> due.holds(name + " is told", page.contains("`" + name + "`")));
        }
    }
}
