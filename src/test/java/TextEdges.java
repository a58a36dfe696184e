/** The edges of promises 6 to 8, and of what "Terms" say of the tape, texts and faults. */
final class TextEdges {
    private static final int BAD = Edges.BAD, STATE = Edges.STATE, FULL = Edges.FULL, NONE = Edges.NONE;
    private static final String THREE = "t1;f1;f2;f3;";
    private static final String FOUR = "t1;f1;f2;f3;f4;";
    private static final String EIGHT = "t1;f1;f2;f3;f4;f5;f6;f7;f8;";
    private static final String FIVE_SIT = "z0;z1;z2;z3;z3;";
    private static final String SIX_PLAY = "a0,0;l1,1;c2,0;r3,1;w3,0;a0,1;";

    private final Edges edges;
    private Run bare;

    private TextEdges(Edges edges) {
        this.edges = edges;
    }

    static void hold(Edges edges) {
        TextEdges text = new TextEdges(edges);
        text.bytesComeOneByOne();
        text.bytesAreTokens();
        text.aTownHasItsOrder();
        text.theLaw();
        text.theFlames();
        text.theSitters();
        text.thePlayers();
        text.aTownInPlaceOfAnother();
        text.theFirstFaultAndTheLeast();
        text.whatCannotStand();
        text.numbersNotAsTold();
        text.noRoomForMore();
        text.theTapeIsRead();
        text.theLatestFault();
        text.everyByteEverywhere();
    }

    /** A run with a town that a fault could spoil, and nothing on the tape. */
    private void sentence(String words) {
        edges.says(0, words);
        bare = edges.run("t2;f5;f0;f9;f4;z1;r0,0;a1,0;");
        bare.does("image", 1);
        bare.does("evenings", 1);
        bare.does("pour", 1, 3);
        bare.does("row", 0, 2, 3);
        bare.does("ask", 1, 0);
    }

    private void fault(int place, int number, String text) {
        bare.faults(place, number, text);
    }

    private Run reads(int places, String text) {
        Run run = edges.run().feed(text).is(places, "town");
        run.tells(0, "fault");
        run.tells(places, "count", 1);
        run.tells(0, "count", 9);
        return run;
    }

    private void bytesComeOneByOne() {
        edges.says(0, "TEXTS: THE TAPE has at most 90 bytes, that come one by one;");
        Run run = edges.run();
        run.tells(0, "count", 9);
        for (int n = 1; n <= 89; n++) {
            run.is(n, "feed", 'f');
        }
        run.tells(89, "count", 9);
        run.is(90, "feed", 255).refused(FULL, "feed", 'f');
        run.refused(FULL, "feed", 0);
        run.refused(FULL, "feed", 255);
        run.tells(90, "count", 9);
        edges.says(6, "A byte (0 to 255) comes behind the tape: how many it has.");
        Run bytes = edges.run().is(1, "feed", 0).is(2, "feed", 255).is(3, "feed", 't');
        bytes.tells(3, "count", 9);
        edges.says(6, "BAD; FULL.");
        for (int letter : new int[] {-1, 256, Edges.LEAST, Edges.MOST}) {
            run.refused(BAD, "feed", letter);
            bytes.refused(BAD, "feed", letter);
            edges.rich().refused(BAD, "feed", letter);
        }
        run.is(-1000100, "town").is(1, "feed", 't');
    }

    private void bytesAreTokens() {
        sentence("TOKENS: letters a to z (each by itself), NUMBERS (figures, 2 at most), SIGNS , and ; nothing else, no blanks.");
        reads(4, FOUR);
        reads(4, "t01;f00;f09;f10;f20;z03;a00,01;");
        fault(1, 1, "tt1;");
        fault(1, 1, "t001;");
        fault(0, 1, " t1;");
        fault(1, 1, "t 1;");
        fault(2, 1, "t1 ;");
        fault(3, 1, "t1; f1;");
        fault(15, 1, FOUR + " ");
        fault(15, 1, FOUR + "\n");
        fault(0, 1, "T1;");
        fault(1, 1, "t-1;");
        fault(1, 1, "t+1;");
        fault(2, 1, "t1:");
        fault(2, 1, "t1.");
        fault(1, 1, "t/;");
        fault(1, 1, "t:;");
        for (int letter = 0; letter < 256; letter++) {
            boolean mayBegin = "fzalcrw".indexOf(letter) >= 0;
            fault(mayBegin ? 16 : 15, 1, FOUR + (char) letter);
        }
    }

    private void aTownHasItsOrder() {
        sentence("town: law flame flame flame flame { flame } { sitter } { player }.");
        reads(4, FOUR);
        reads(8, EIGHT);
        reads(4, FOUR + "z0;");
        reads(4, FOUR + "a0,0;");
        reads(5, FOUR + "f5;z4;a4,0;");
        fault(0, 1, "");
        fault(0, 1, "f1;");
        fault(3, 1, "t1;");
        fault(3, 1, "t1;t1;");
        fault(3, 1, "t1;z0;");
        fault(12, 1, THREE);
        fault(12, 1, THREE + "z0;");
        fault(12, 1, THREE + "a0,0;");
        fault(15, 1, FOUR + "t1;");
        fault(18, 1, FOUR + "z0;f1;");
        fault(18, 1, FOUR + "z0;t1;");
        fault(20, 1, FOUR + "a0,0;z0;");
        fault(20, 1, FOUR + "a0,0;f1;");
        fault(20, 1, FOUR + "a0,0;t1;");
    }

    private void theLaw() {
        sentence("law: t BURN ; (1 to 3).");
        for (int burn = 1; burn <= 3; burn++) {
            Run run = reads(4, "t" + burn + ";f9;f9;f9;f9;");
            run.tells(9 - burn, "oil", 0, 1);
        }
        fault(1, 2, "t0;");
        fault(1, 2, "t00;");
        fault(1, 2, "t4;");
        fault(1, 2, "t04;");
        fault(1, 2, "t10;");
        fault(1, 2, "t99;");
        fault(1, 1, "t;");
        fault(2, 1, "t1,");
        fault(2, 1, "t1f");
        fault(2, 1, "t1");
    }

    private void theFlames() {
        sentence("flame: f OIL ; (0 to 20; PLACES 0 .. 7, 4 to 8, side by side, each with a FLAME).");
        Run run = reads(4, "t1;f0;f20;f1;f19;");
        int[] oil = {0, 20, 1, 19};
        for (int i = 0; i < 4; i++) {
            run.tells(oil[i], "place", i, 0);
        }
        run.refused(BAD, "place", 4, 0);
        run.refused(BAD, "place", -1, 0);
        Run eight = reads(8, EIGHT);
        eight.tells(8, "place", 7, 0);
        eight.refused(BAD, "place", 8, 0);
        for (int places = 4; places <= 8; places++) {
            reads(places, EIGHT.substring(0, 3 + 3 * places)).tells(places, "place", places - 1, 0);
        }
        fault(12, 1, THREE);
        fault(4, 2, "t1;f21;");
        fault(4, 2, "t1;f99;");
        fault(4, 1, "t1;f020;");
        fault(4, 1, "t1;f;");
        fault(5, 1, "t1;f1,");
        fault(27, 3, EIGHT + "f1;");
    }

    private void theSitters() {
        sentence("sitter: z PLACE ; (SITTERS, 5 at most by the text; several may sit at one PLACE).");
        reads(4, FOUR).tells(0, "count", 6);
        Run run = reads(4, FOUR + FIVE_SIT);
        run.tells(5, "count", 6);
        run.tells(1, "place", 0, 2);
        run.tells(2, "place", 3, 2);
        reads(4, FOUR + "z2;z2;z2;z2;z2;").tells(5, "place", 2, 2);
        reads(8, EIGHT + "z7;").tells(1, "place", 7, 2);
        fault(16, 2, FOUR + "z4;");
        fault(28, 2, EIGHT + "z8;");
        fault(28, 2, EIGHT + "z10;");
        fault(16, 1, FOUR + "z;");
        fault(17, 1, FOUR + "z0,");
        fault(17, 1, FOUR + "z0");
        fault(30, 3, FOUR + FIVE_SIT + "z0;");
    }

    private void thePlayers() {
        sentence("player: SORT PLACE , WAY ; (SORT: a a farmer, l a lad, c a child, r a cart, w a widow; a PLACE; 0 down, 1 up; PLAYERS 0 .. 5, 6 at most).");
        Run none = reads(4, FOUR);
        none.tells(0, "count", 2);
        none.refused(BAD, "player", 0, 0);
        Run six = reads(4, FOUR + SIX_PLAY);
        six.tells(6, "count", 2);
        int[] kinds = {1, 2, 3, 4, 5, 1};
        int[] places = {0, 1, 2, 3, 3, 0};
        int[] ways = {0, 1, 0, 1, 0, 1};
        for (int i = 0; i < 6; i++) {
            six.tells(kinds[i], "kind", i);
            six.tells(places[i], "player", i, 0);
            six.tells(ways[i], "player", i, 1);
        }
        six.refused(BAD, "player", 6, 0);
        reads(4, FOUR + "r1,0;").tells(0, "ahead", 0, 1);
        reads(4, FOUR + "r1,1;").tells(2, "ahead", 0, 1);
        reads(8, EIGHT + "a7,0;").tells(7, "player", 0, 0);
        fault(16, 2, FOUR + "a4,0;");
        fault(28, 2, EIGHT + "a8,0;");
        fault(18, 2, FOUR + "a3,2;");
        fault(18, 2, FOUR + "a3,10;");
        fault(16, 1, FOUR + "a,0;");
        fault(17, 1, FOUR + "a0;");
        fault(18, 1, FOUR + "a0,;");
        fault(19, 1, FOUR + "a0,0,");
        fault(19, 1, FOUR + "a0,0");
        fault(15, 1, FOUR + "p0,0;");
        fault(45, 3, FOUR + SIX_PLAY + "a0,0;");
    }

    private void aTownInPlaceOfAnother() {
        edges.says(0, "A TOWN that is read stands in place of the one before (none at first): EVENING 0, no CLAPS, nobody has CROSSED; no ACT can be undone.");
        Run run = edges.run("t3;f9;f9;f9;f9;f9;z0;z1;r0,0;r1,0;a1,0;").is(0b11111, "evenings", 2).is(20, "pour", 0, 20);
        run.tells(2, "count", 5);
        run.tells(5, "count", 1);
        run.does("later", 60, 1);
        run.feed(FOUR + "a0,0;").is(4, "town");
        int[] counts = {0, 4, 1, 0, 0, 0, 0, 0b1111, 0, 0};
        for (int what = 0; what < counts.length; what++) {
            run.tells(counts[what], "count", what);
        }
        run.tells(1, "place", 0, 0);
        run.tells(1, "oil", 1, 1);
        run.refused(BAD, "place", 4, 0);
        run.refused(STATE, "undo");
        run.is(0b1110, "evenings", 1).is(0, "undo");
        run.refused(STATE, "undo");
        run.tells(1, "place", 0, 0);
    }

    private void theFirstFaultAndTheLeast() {
        sentence("FAULTS, the first TOKEN that has one (its first byte), of one TOKEN the least:");
        fault(1, 2, "t9;f21;x");
        fault(4, 2, "t1;f21;x");
        fault(4, 2, "t1;f99,");
        fault(16, 2, FOUR + "a9,9;");
        fault(18, 2, FOUR + "a0,99,");
        fault(15, 1, FOUR + "99;");
        fault(17, 1, FOUR + "a0;99;");
        fault(30, 1, EIGHT + "z0;f1;");
        fault(50, 1, FOUR + FIVE_SIT + "a0,0;l0,0;c0,0;r0,0;z0;");
        fault(60, 1, FOUR + FIVE_SIT + SIX_PLAY + "z0;");
        fault(60, 1, FOUR + FIVE_SIT + SIX_PLAY + "f0;");
    }

    private void whatCannotStand() {
        sentence("1 it cannot stand there, or is none (a run of three figures, at its first; the end: how many bytes there are);");
        fault(1, 1, "t111;");
        fault(1, 1, "t1111;");
        fault(1, 1, "t11111");
        fault(1, 1, "t000;");
        fault(4, 1, "t1;f001;");
        fault(16, 1, FOUR + "z000;");
        fault(18, 1, FOUR + "a0,000;");
        fault(15, 1, FOUR + "000;");
        fault(0, 1, "111");
        String text = FOUR + "z0;a0,0;";
        for (int n = 0; n < text.length(); n++) {
            if (n != 15 && n != 18) {
                fault(n, 1, text.substring(0, n));
            }
        }
        StringBuilder full = new StringBuilder();
        for (int i = 0; i < 90; i++) {
            full.append('1');
        }
        fault(0, 1, full.toString());
        fault(1, 1, "t" + full.substring(1));
    }

    private void numbersNotAsTold() {
        sentence("2 a NUMBER that is not as told;");
        fault(1, 2, "t0;");
        fault(1, 2, "t4");
        fault(4, 2, "t1;f21");
        fault(13, 2, THREE + "f21;");
        fault(16, 2, FOUR + "z4");
        fault(19, 2, FOUR + "f1;z5;");
        fault(16, 2, FOUR + "w4,0;");
        fault(18, 2, FOUR + "w0,2;");
        fault(23, 2, FOUR + "a0,0;a3,2;");
    }

    private void noRoomForMore() {
        sentence("3 a flame, a sitter, a player more than there is room for (its letter).");
        fault(27, 3, EIGHT + "f");
        fault(27, 3, EIGHT + "f99;");
        fault(27, 3, EIGHT + "f1;" + FIVE_SIT + "z0;");
        fault(30, 3, FOUR + FIVE_SIT + "z");
        fault(30, 3, FOUR + FIVE_SIT + "z9;");
        fault(42, 3, EIGHT + FIVE_SIT + "z0;" + SIX_PLAY);
        for (String sort : new String[] {"a", "l", "c", "r", "w"}) {
            fault(45, 3, FOUR + SIX_PLAY + sort);
        }
        fault(72, 3, EIGHT + FIVE_SIT + SIX_PLAY + "r9,9;");
        fault(45, 1, FOUR + SIX_PLAY + "x");
        fault(45, 1, FOUR + SIX_PLAY + ";");
        reads(8, EIGHT + FIVE_SIT + SIX_PLAY);
    }

    private void theTapeIsRead() {
        edges.says(7, "The tape, empty then, is read: how many PLACES there are.");
        Run run = edges.run().feed(FOUR);
        run.tells(15, "count", 9);
        run.is(4, "town");
        run.tells(0, "count", 9);
        run.feed(EIGHT).is(8, "town");
        run.feed("t1;f1").is(-1000105, "town").is(0, "count", 9);
        run.feed(";f2;f3;f4;").is(-1000100, "town").feed(FOUR).is(4, "town");
        edges.says(7, "-1000100 less the place of a FAULT: all stays.");
        bare = edges.rich().is(4, "town").is(0, "count", 9);
        fault(0, 1, "");
        fault(5, 1, "t1;f1");
        fault(1, 2, "t4;f1;f1;f1;f1;");
        fault(27, 3, EIGHT + "f1;");
        bare = edges.run();
        fault(0, 1, "");
        fault(1, 2, "t4;");
        StringBuilder full = new StringBuilder(FOUR);
        while (full.length() < 90) {
            full.append("z0;");
        }
        fault(30, 3, full.toString());
    }

    private void theLatestFault() {
        edges.says(8, "The number of the latest FAULT; 0 before one.");
        Run run = edges.run().is(0, "fault").feed(FOUR).is(4, "town").is(0, "fault");
        run.feed("t9;").is(-1000101, "town").is(2, "fault");
        run.feed(FOUR).is(4, "town").is(2, "fault");
        run.is(-1000100, "town").is(1, "fault");
        run.feed(EIGHT + "f1;").is(-1000127, "town").is(3, "fault");
        run.is(1, "image", 0).is(0b1110, "evenings", 1).is(0, "undo").is(1, "restore", 0).is(3, "fault");
        run.tells(3, "fault");
    }

    /** Not by a sentence, but by the model: each byte in each place of a text, and behind its end. */
    private void everyByteEverywhere() {
        String text = FOUR + "f0;z4;z0;r4,1;w0,0;";
        for (int i = 0; i <= text.length(); i++) {
            for (int letter = 0; letter < 256; letter++) {
                String changed = text.substring(0, i) + (char) letter + text.substring(Math.min(text.length(), i + 1));
                FootLights x = new FootLights();
                Model model = new Model();
                for (int k = 0; k < changed.length(); k++) {
                    x.feed(changed.charAt(k));
                    model.feed(changed.charAt(k));
                }
                edges.due.is(changed, x.town(), model.town());
                edges.due.is(changed + " fault", x.fault(), model.fault());
            }
        }
    }
}
