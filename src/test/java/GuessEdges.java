/** The edges of promises 26 to 31: what rows tell, the wind, the years, images. */
final class GuessEdges {
    private static final int NONE = Edges.NONE, BAD = Edges.BAD, STATE = Edges.STATE;
    private static final int NULL = Edges.NULL, PLACE = Edges.PLACE;
    private static final int LEAST = Edges.LEAST, MOST = Edges.MOST;
    private static final int[] NO_PLAYERS = {-1, 5, 6, LEAST, MOST};
    private static final int[] NO_ROWS = {-1, 8, LEAST, MOST};
    private static final int[] NOT_TOLD = {0, -1, 13, LEAST, MOST};
    private static final int[] NEITHER = {-1, 2, LEAST, MOST};

    private final Edges edges;

    private GuessEdges(Edges edges) {
        this.edges = edges;
    }

    static void hold(Edges edges) {
        GuessEdges guess = new GuessEdges(edges);
        guess.placesAreTold();
        guess.sortsStartsAndWays();
        guess.whatFits();
        guess.fitsIsRefused();
        guess.clapsAreTold();
        guess.sitsIsRefused();
        guess.fractions();
        guess.theWind();
        guess.windIsRefused();
        guess.years();
        guess.yearsPour();
        guess.yearsAreRefused();
        guess.imagesAreKept();
        guess.imagesAreRestored();
    }

    private static Run tell(Run run, int row, int lane, int... items) {
        run.is(items.length, "row", row, lane, items.length);
        for (int i = 0; i < items.length; i++) {
            run.does("set", row, i, items[i]);
        }
        return run;
    }

    private void fits(Run run, int sorts, int starts, int ways, int... call) {
        int[] due = {sorts, starts, ways};
        for (int what = 0; what < 3; what++) {
            run.tellsWithoutFinding(due[what], "fits", call[0], call[1], call[2], call[3], what);
        }
    }

    private void placesAreTold() {
        edges.says(0, "A row tells the PLACE of a PLAYER (told as 99: CROSSED) behind each of n EVENINGS (1 to 12) from now on.");
        // Ten evenings in the light; then a farmer goes on, a lad crosses.
        Run run = edges.run("t1;f20;f20;f20;f20;a2,0;");
        tell(run, 0, 0, 2, 2, 2, 2, 2, 2, 2, 2, 2, 2, 1, 1);
        tell(run, 1, 1, 2, 2, 2, 2, 2, 2, 2, 2, 2, 2, 99, 99);
        fits(run, 1 << 1, 1 << 2, 0b11, 0, 0, 0, 12);
        fits(run, 1 << 2, 0, 0, 0, 1, 0, 12);
        fits(run, 1 << 1 | 1 << 2, 1 << 2, 0b11, 0, 1, 0, 10);
        fits(run, 1 << 1 | 1 << 2, 1 << 2, 0b11, 0, 1, 0, 1);
        Run cart = edges.run("t1;f9;f9;f9;f9;r0,0;");
        tell(cart, 0, 2, 99, 99, NONE, -1, 0);
        fits(cart, 1 << 4 | 1 << 5, 1, 0b01, 0, 0, 0, 1);
        fits(cart, 1 << 4 | 1 << 5, 1, 0b01, 0, 0, 0, 2);
        fits(cart, 0, 0, 0, 0, 0, 2, 1);
        fits(cart, 0, 0, 0, 0, 0, 3, 1);
        fits(cart, 1 << 1 | 1 << 2 | 1 << 3, 1 << 1, 0, 0, 0, 4, 1);
    }

    private void sortsStartsAndWays() {
        edges.says(0, "SORTS: KINDS (bits 1 to 5) of it by which it is so; STARTS: PLACES (bits) of it now; WAYS (bits 0, 1).");
        Run dark = edges.run("t1;f0;f0;f0;f0;f0;f0;f0;f0;l7,1;");
        tell(dark, 7, 0, 99, 7, 0);
        fits(dark, 1 << 2 | 1 << 4 | 1 << 5, 0b11111111, 0b11, 0, 7, 0, 1);
        fits(dark, 1 << 1 | 1 << 3, 0, 0, 0, 7, 1, 1);
        fits(dark, 0, 0, 0, 0, 7, 2, 1);
        Run widow = edges.run("t1;f9;f9;f9;f9;w3,0;").is(0b1111, "evenings", 1);
        tell(widow, 0, 0, 2, 1, 1, 0);
        fits(widow, 1 << 5, 1 << 2, 0b01, 0, 0, 0, 4);
        Run farmer = edges.run("t1;f9;f0;f0;f0;c3,1;");
        tell(farmer, 0, 0, 2, 1, 0);
        fits(farmer, 1 << 1, 0, 0, 0, 0, 0, 3);
    }

    private void whatFits() {
        edges.says(26, "SORTS (what = 0), STARTS (1), WAYS (2) by PLACES of a PLAYER, n ITEMS of a ROW from i on.");
        Run run = edges.run("t1;f9;f9;f9;f0;l2,1;r0,0;a0,0;a0,0;a0,0;a0,0;");
        tell(run, 0, 0, 7, 3, 99, 99);
        fits(run, 1 << 2 | 1 << 4, 1 << 2, 0b11, 0, 0, 1, 3);
        fits(run, 1 << 2 | 1 << 4 | 1 << 5, 1 << 2, 0b11, 0, 0, 1, 1);
        fits(run, 0, 0, 0, 0, 0, 0, 4);
        run.tellsWithoutFinding(0, "fits", 5, 0, 0, 1, 0);
        run.does("row", 2, 1, 40);
        run.does("set", 2, 39, 3);
        fits(run, 1 << 2 | 1 << 4 | 1 << 5, 1 << 2, 0b11, 0, 2, 39, 1);
        run.tellsWithoutFinding(0, "fits", 0, 2, 28, 12, 0);
    }

    private void fitsIsRefused() {
        edges.says(26, "BAD: PLAYER, ROW, n, what; STATE: it has CROSSED; NULL; PLACE.");
        Run rich = edges.rich();
        for (int player : NO_PLAYERS) {
            rich.refused(BAD, "fits", player, 0, 0, 1, 0);
            rich.refused(BAD, "fits", player, 7, -1, 1, 0);
        }
        for (int row : NO_ROWS) {
            rich.refused(BAD, "fits", 0, row, 0, 1, 0);
            rich.refused(BAD, "fits", 3, row, -1, 1, 0);
        }
        for (int n : NOT_TOLD) {
            rich.refused(BAD, "fits", 0, 2, 0, n, 0);
            rich.refused(BAD, "fits", 3, 7, -1, n, 0);
        }
        for (int what : new int[] {-1, 3, LEAST, MOST}) {
            rich.refused(BAD, "fits", 0, 0, 0, 1, what);
            rich.refused(BAD, "fits", 3, 7, -1, 1, what);
        }
        rich.refused(STATE, "fits", 3, 0, 0, 1, 0);
        rich.refused(STATE, "fits", 3, 7, 0, 1, 1);
        rich.refused(STATE, "fits", 3, 0, -1, 1, 2);
        for (int row = 4; row < 8; row++) {
            rich.finds(NULL, "fits", 0, row, 0, 1, 0);
            rich.finds(NULL, "fits", 0, row, -1, 12, 2);
        }
        int[][] beyond = {{-1, 1}, {0, 4}, {1, 3}, {2, 2}, {3, 1}, {40, 1}, {LEAST, 1}, {MOST, 1}, {MOST, 12}, {-1, 12}};
        for (int[] items : beyond) {
            rich.finds(PLACE, "fits", 0, 0, items[0], items[1], 0);
        }
        rich.finds(PLACE, "fits", 0, 3, 0, 1, 0);
        rich.finds(PLACE, "fits", 0, 2, 29, 12, 0);
        rich.finds(PLACE, "fits", 0, 2, 40, 1, 0);
        rich.tellsWithoutFinding(1 << 1 | 1 << 3, "fits", 0, 2, 28, 12, 0);
        rich.tellsWithoutFinding(0, "fits", 0, 0, 0, 3, 0);
        edges.run().refused(BAD, "fits", 0, 0, 0, 1, 0);
        edges.run("t1;f0;f0;f0;f0;").refused(BAD, "fits", 0, 0, 0, 1, 0);
    }

    private void clapsAreTold() {
        edges.says(0, "A row tells CLAPS of each of n EVENINGS (1 to 12) by itself: SITS: PLACES (bits) where one SITTER more now makes it so.");
        // Ten evenings at 0, then at 1.
        Run run = edges.run("t1;f20;f20;f20;f20;a0,0;");
        tell(run, 0, 0, 1, 1, 1, 1, 1, 1, 1, 1, 1, 1, 1, 1);
        tell(run, 1, 1, 0, 0, 0, 0, 0, 0, 0, 0, 0, 0, 0, 0);
        tell(run, 2, 2, 0, 0, 0, 0, 0, 0, 0, 0, 0, 0, 1, 1);
        run.tellsWithoutFinding(0b0011, "sits", 0, 0, 12);
        run.tellsWithoutFinding(0b0011, "sits", 0, 0, 1);
        run.tellsWithoutFinding(0b1000, "sits", 1, 0, 12);
        run.tellsWithoutFinding(0b1100, "sits", 1, 0, 10);
        run.tellsWithoutFinding(0b0100, "sits", 2, 0, 12);
        edges.says(27, "SITS by CLAPS, n ITEMS of a ROW from i on.");
        Run last = edges.run("t1;f9;f9;f9;f9;f9;f9;f9;f9;z7;z7;z7;z7;z7;a7,0;").is(255, "evenings", 1);
        tell(last, 7, 2, 4, 5, 6, 7, 5, 10, LEAST, MOST, -1);
        last.tellsWithoutFinding(0, "sits", 7, 0, 1);
        last.tellsWithoutFinding(0b00111111, "sits", 7, 1, 1);
        last.tellsWithoutFinding(0b11000000, "sits", 7, 2, 1);
        last.tellsWithoutFinding(0, "sits", 7, 3, 1);
        last.tellsWithoutFinding(0, "sits", 7, 4, 2);
        last.tellsWithoutFinding(0, "sits", 7, 6, 3);
        Run nobody = tell(edges.run("t1;f0;f0;f0;f0;"), 0, 0, 0, 1);
        nobody.tellsWithoutFinding(0b1111, "sits", 0, 0, 1);
        nobody.tellsWithoutFinding(0, "sits", 0, 0, 2);
    }

    private void sitsIsRefused() {
        edges.says(27, "BAD: ROW, n; STATE: no TOWN (ahead of BAD); NULL; PLACE.");
        Run rich = edges.rich();
        Run none = edges.run();
        for (int row : NO_ROWS) {
            rich.refused(BAD, "sits", row, 0, 1);
            rich.refused(BAD, "sits", row, -1, 1);
            none.refused(STATE, "sits", row, 0, 1);
        }
        for (int n : NOT_TOLD) {
            rich.refused(BAD, "sits", 2, 0, n);
            rich.refused(BAD, "sits", 7, -1, n);
            none.refused(STATE, "sits", 0, 0, n);
        }
        none.refused(STATE, "sits", 0, 0, 1);
        none.refused(STATE, "sits", 7, -1, 12);
        for (int row = 4; row < 8; row++) {
            rich.finds(NULL, "sits", row, 0, 1);
            rich.finds(NULL, "sits", row, -1, 12);
        }
        int[][] beyond = {{-1, 1}, {0, 4}, {1, 3}, {2, 2}, {3, 1}, {40, 1}, {LEAST, 1}, {MOST, 1}, {MOST, 12}, {-1, 12}};
        for (int[] items : beyond) {
            rich.finds(PLACE, "sits", 0, items[0], items[1]);
        }
        rich.finds(PLACE, "sits", 3, 0, 1);
        rich.finds(PLACE, "sits", 2, 29, 12);
        rich.tellsWithoutFinding(0, "sits", 2, 28, 12);
        rich.tellsWithoutFinding(0, "sits", 0, 0, 3);
    }

    private void wind(Run run, int above, int below, int player, int n, int c) {
        run.tells(above, "wind", player, n, c, 0);
        run.tells(below, "wind", player, n, c, 1);
    }

    private void fractions() {
        edges.says(0, "All that is divided is cut towards 0, but fractions, told as two numbers in lowest terms (0 is 0 by 1).");
        Run lad = edges.run("t1;f9;f9;f9;f9;l2,0;");
        int[][] byTenths = {{0, 1}, {1, 10}, {1, 5}, {3, 10}, {2, 5}, {1, 2}, {3, 5}, {7, 10}, {4, 5}, {9, 10}, {1, 1}};
        for (int c = 0; c <= 10; c++) {
            wind(lad, byTenths[c][0], byTenths[c][1], 0, 1, c);
            wind(lad, 0, 1, 0, 0, c);
        }
        wind(lad, 657, 1000, 0, 2, 3);
        wind(lad, 7, 8, 0, 2, 5);
    }

    private void theWind() {
        edges.says(0, "WIND: each FLAME that has OIL is put out now by c of 10, each by itself: that a PLAYER has CROSSED behind n EVENINGS (0 to 30): a fraction.");
        // He crosses if any of the eight is out.
        Run eight = edges.run("t1;f20;f20;f20;f20;f20;f20;f20;f20;l0,0;");
        wind(eight, 56953279, 100000000, 0, 8, 1);
        wind(eight, 99999999, 100000000, 0, 8, 9);
        wind(eight, 255, 256, 0, 8, 5);
        wind(eight, 0, 1, 0, 8, 0);
        wind(eight, 1, 1, 0, 8, 10);
        wind(eight, 1, 1, 0, 1, 10);
        wind(eight, 1, 1, 0, 30, 0);
        Run others = edges.run("t1;f20;f20;f20;f20;f20;f20;f20;f20;a0,0;c0,0;w0,1;r7,0;");
        wind(others, 0, 1, 0, 30, 5);
        wind(others, 0, 1, 1, 30, 10);
        wind(others, 0, 1, 2, 14, 5);
        wind(others, 1, 1, 2, 15, 5);
        wind(others, 0, 1, 3, 7, 5);
        wind(others, 1, 1, 3, 8, 5);
        Run dark = edges.run("t1;f0;f9;f0;f9;l0,0;l1,0;");
        wind(dark, 0, 1, 0, 0, 10);
        wind(dark, 1, 1, 0, 1, 0);
        wind(dark, 3, 10, 1, 1, 3);
        dark.does("evenings", 1);
        wind(dark, 1, 1, 0, 0, 0);
        wind(dark, 1, 1, 0, 0, 5);
        wind(dark, 1, 1, 0, 30, 10);
    }

    private void windIsRefused() {
        edges.says(28, "WIND (c 0 to 10): above (what = 0), below (1). BAD.");
        Run rich = edges.rich();
        wind(rich, 0, 1, 0, 0, 0);
        wind(rich, 1, 1, 1, 30, 10);
        for (int player : NO_PLAYERS) {
            rich.refused(BAD, "wind", player, 0, 0, 0);
        }
        for (int n : new int[] {-1, 31, LEAST, MOST}) {
            rich.refused(BAD, "wind", 0, n, 0, 0);
        }
        for (int c : new int[] {-1, 11, LEAST, MOST}) {
            rich.refused(BAD, "wind", 0, 0, c, 0);
        }
        for (int what : NEITHER) {
            rich.refused(BAD, "wind", 0, 0, 0, what);
            rich.refused(BAD, "wind", 3, 0, 0, what);
        }
        edges.run().refused(BAD, "wind", 0, 0, 0, 0);
        edges.run("t1;f0;f0;f0;f0;").refused(BAD, "wind", 0, 0, 0, 0);
    }

    private void years() {
        edges.says(0, "YEARS of n EVENINGS (0 to 60) by a SEED (X at first): ahead of each X becomes the rest of (X times 16807) by 2147483647;");
        // X by seed 1: 16807 (7 to place 3), 282475249 (1 to place 1), 1622650073 (1 to place 1), 984943658 (2 to place 2).
        Run run = edges.run("t1;f0;f0;f0;f0;z3;a3,0;");
        int[] claps = {0, 1, 2, 3, 4};
        for (int n = 0; n < claps.length; n++) {
            run.tells(claps[n], "drawn", n, 1, 0);
            run.tells(0, "drawn", n, 1, 1);
        }
        Run one = edges.run("t1;f0;f0;f0;f0;z2;a1,0;");
        // The farmer goes to 2, which is dark, then back to 1, which has 1, is dark ahead of the third, has 1 again.
        int[] clapsOfOne = {0, 0, 1, 2};
        for (int n = 0; n < clapsOfOne.length; n++) {
            one.tells(clapsOfOne[n], "drawn", n, 1, 0);
        }
        edges.says(0, "then the EVENING: CLAPS of them; how many have CROSSED in all.");
        Run played = edges.run("t1;f9;f9;f9;f9;z0;l1,0;r0,0;a0,0;").is(0b1111, "evenings", 1).is(2, "count", 4);
        played.tells(0, "drawn", 0, 3, 0);
        played.tells(1, "drawn", 0, 3, 1);
        // By seed 3 the flame at 1 is put out: the lad crosses; two sit by the farmer.
        played.tells(2, "drawn", 1, 3, 0);
        played.tells(2, "drawn", 1, 3, 1);
    }

    private void yearsPour() {
        edges.says(0, "on the PLACE that is the rest of X by how many there are the rest of X by 8 of OIL is poured (20 at most there), but if X by 3 leaves 0 its FLAME is put out instead;");
        // 16807: place 3 of 4, 2 of 5, 1 of 6, 0 of 7, 7 of 8.
        int[] drawnPlace = {3, 2, 1, 0, 7};
        for (int places = 4; places <= 8; places++) {
            String dark = "t1;f0;f0;f0;f0;f0;f0;f0;f0;".substring(0, 3 + 3 * places);
            int place = drawnPlace[places - 4];
            edges.run(dark + "z" + place + ";a" + place + ",0;").tells(1, "drawn", 1, 1, 0);
        }
        // 999999: X is 1774597664, of which 8 leaves 0: nothing comes to place 0.
        edges.run("t1;f0;f0;f0;f0;z0;a0,0;").tells(0, "drawn", 1, 999999, 0);
        edges.run("t1;f0;f0;f0;f0;z0;l0,0;").tells(1, "drawn", 1, 999999, 1);
        // 3: X is 50421: place 1 is put out, though 8 leaves 5.
        edges.run("t1;f9;f9;f9;f9;z1;l1,0;").tells(1, "drawn", 1, 3, 1);
        edges.run("t1;f9;f0;f9;f9;z1;l1,0;").tells(1, "drawn", 1, 3, 1);
        // 171: X is 2873997 (place 1 is put out), then 1058627345 (1 comes to it).
        Run anew = edges.run("t1;f0;f9;f0;f0;z1;a1,0;");
        anew.tells(0, "drawn", 1, 171, 0);
        anew.tells(1, "drawn", 2, 171, 0);
        // 193: 7 to place 3, then none there for long: 20 burn for ten evenings, 26 would for thirteen.
        Run full = edges.run("t1;f20;f20;f20;f19;z1;a3,0;");
        full.tells(0, "drawn", 10, 193, 0);
        full.tells(1, "drawn", 11, 193, 0);
        full.tells(2, "drawn", 12, 193, 0);
    }

    private void yearsAreRefused() {
        edges.says(29, "YEARS by a SEED (1 to 999999): CLAPS (what = 0), how many (1).");
        Run run = edges.run("t1;f0;f0;f0;f0;r0,0;");
        run.tells(0, "drawn", 0, 1, 1);
        run.tells(1, "drawn", 1, 1, 1);
        run.tells(1, "drawn", 60, 1, 1);
        run.tells(1, "drawn", 60, 999999, 1);
        run.tells(0, "drawn", 60, 999999, 0);
        edges.says(29, "BAD; STATE: no TOWN (ahead of BAD).");
        Run rich = edges.rich();
        Run none = edges.run();
        for (int n : new int[] {-1, 61, LEAST, MOST}) {
            rich.refused(BAD, "drawn", n, 1, 0);
            none.refused(STATE, "drawn", n, 1, 0);
        }
        for (int seed : new int[] {0, -1, 1000000, LEAST, MOST}) {
            rich.refused(BAD, "drawn", 0, seed, 0);
            none.refused(STATE, "drawn", 0, seed, 0);
        }
        for (int what : NEITHER) {
            rich.refused(BAD, "drawn", 0, 1, what);
            none.refused(STATE, "drawn", 0, 1, what);
        }
        none.refused(STATE, "drawn", 0, 1, 0);
        none.refused(STATE, "drawn", 60, 999999, 1);
    }

    private void imagesAreKept() {
        edges.says(30, "An IMAGE (0, 1) is kept of the TOWN: 1.");
        Run run = edges.run("t1;f9;f9;f9;f9;r0,0;").is(1, "image", 0).is(0b1111, "evenings", 2).is(1, "image", 1);
        run.tells(2, "count", 8);
        run.is(1, "undo").is(1, "restore", 1).is(2, "count", 3).is(1, "restore", 0).is(0, "count", 3);
        run.is(0b1111, "evenings", 1).is(1, "image", 0).is(0, "undo").is(1, "restore", 0).is(1, "count", 3);
        run.is(1, "restore", 1).is(2, "count", 3);
        edges.says(30, "BAD; STATE: no TOWN.");
        Run rich = edges.rich();
        Run none = edges.run();
        for (int k : NEITHER) {
            rich.refused(BAD, "image", k);
            none.refused(BAD, "image", k);
        }
        none.refused(STATE, "image", 0);
        none.refused(STATE, "image", 1);
        none.feed("t1;").is(-1000103, "town");
        none.refused(STATE, "image", 0);
    }

    private void imagesAreRestored() {
        edges.says(31, "The TOWN is as an IMAGE kept it (no ACT can be undone then): 1.");
        Run run = edges.run("t2;f9;f9;f9;f9;f9;z0;z1;r0,0;a1,1;").is(0b11111, "evenings", 1).is(1, "image", 0);
        run.is(20, "pour", 0, 20).is(0b11111, "evenings", 1).is(3, "count", 8);
        run.is(1, "restore", 0);
        int[] counts = {0, 5, 2, 1, 2, 1, 3, 0b11111, 0, 0};
        for (int what = 0; what < counts.length; what++) {
            run.tells(counts[what], "count", what);
        }
        run.refused(STATE, "undo");
        run.tells(7, "place", 0, 0);
        run.tells(5, "oil", 0, 1);
        // A new town leaves the image; rows, the tape, the trace and the findings are none of the town's.
        run.feed("t1;f0;f0;f0;f0;").is(4, "town").is(3, "row", 0, 1, 3).is(1, "feed", 't');
        run.is(-1000101, "town").is(1, "feed", 't').is(-1000012, "set", 0, 3, 0).is(1, "restore", 0);
        counts[0] = 1;
        counts[9] = 1;
        for (int what = 0; what < counts.length; what++) {
            run.tells(counts[what], "count", what);
        }
        run.tells(1, "fault");
        run.tells(2, "status");
        run.is(0b11111, "evenings", 1).is(5, "quench", 0).is(1, "restore", 0);
        run.tells(7, "place", 0, 0);
        run.tells(1, "count", 3);
        edges.says(31, "BAD; STATE: none was kept.");
        Run rich = edges.rich();
        Run none = edges.run();
        for (int k : NEITHER) {
            rich.refused(BAD, "restore", k);
            none.refused(BAD, "restore", k);
        }
        rich.refused(STATE, "restore", 1);
        none.refused(STATE, "restore", 0);
        none.refused(STATE, "restore", 1);
        rich.is(1, "restore", 0).is(0, "count", 3);
    }
}
