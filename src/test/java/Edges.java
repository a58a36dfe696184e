import java.nio.file.Files;
import java.nio.file.Path;

/** What the edge tests share: their answers, the sentences that they quote, and runs to begin with. */
final class Edges {
    static final int NONE = FootLights.NONE, BAD = FootLights.BAD, STATE = FootLights.STATE, FULL = FootLights.FULL;
    static final int NULL = 1, PLACE = 2, KIND = 3, SIZE = 4, STORE = 5;
    static final int LEAST = Integer.MIN_VALUE, MOST = Integer.MAX_VALUE;

    final Due due = new Due("EdgesTest");
    private final Doc doc;
    private final String notes;
    private String sentence = "";

    Edges() throws Exception {
        doc = new Doc(Path.of("../shared/DOC.md"));
        notes = Files.readString(Path.of("NOTES.md")).replaceAll("\\s+", " ");
    }

    /** The sentence, word by word, that the answers that follow hold the class to; promise 0 is "Terms". */
    void says(int promise, String words) {
        sentence = "promise " + promise + " (" + words + ")";
        due.holds(sentence + " is in the document", doc.quote(promise, words));
    }

    /** A sentence of which no run of 512 calls can show a part: NOTES.md tells which, and why. */
    void outOfReach(int promise, String words) {
        says(promise, words);
        due.holds(sentence + " is in NOTES.md", notes.contains(words));
    }

    Run run() {
        return new Run(due, sentence);
    }

    Run run(String town) {
        return run().town(town);
    }

    /**
     * A run behind which there is something of everything that could be lost: two places are dark, player 3
     * has crossed, there are acts, an image (0), rows of each lane, a trace, a fault, a finding (KIND), and a
     * town on the tape.
     */
    Run rich() {
        Run run = run("t1;f5;f0;f3;f4;z0;z1;a1,0;l0,1;c2,1;r3,1;w3,0;");
        run.does("image", 0);
        run.does("evenings", 1);
        run.does("pour", 0, 9);
        run.does("turn", 4);
        run.does("row", 0, 0, 3);
        run.does("set", 0, 0, 1);
        run.does("set", 0, 1, 2);
        run.does("row", 1, 1, 2);
        run.does("set", 1, 1, 3);
        run.does("row", 2, 2, 40);
        run.does("set", 2, 3, 4);
        run.does("row", 3, 2, 0);
        run.does("feed", 't');
        run.does("town");
        run.feed("t2;f1;f2;f3;f4;a1,1;");
        run.does("ask", 1, 0);
        run.does("as", 0, 5);
        return run;
    }

    /** To be called at the very end: nothing of the document is left that no test has quoted. */
    void close() {
        for (int promise = Doc.TERMS; promise <= Doc.PROMISES; promise++) {
            String left = doc.leftOf(promise);
            due.holds("promise " + promise + " has words that no test quotes: " + left, left.isEmpty());
        }
        due.close();
    }
}
