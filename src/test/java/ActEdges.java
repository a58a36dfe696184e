/** The edges of promises 9 to 16. */
final class ActEdges {
    private static final int NONE = Edges.NONE, BAD = Edges.BAD, STATE = Edges.STATE, FULL = Edges.FULL;
    private static final int LEAST = Edges.LEAST, MOST = Edges.MOST;
    private static final int[] NO_PLACES = {-1, 4, 7, 8, LEAST, MOST};
    private static final int[] NO_PLAYERS = {-1, 5, 6, LEAST, MOST};
    private static final String EIGHT_AND_SIX = "t1;f9;f9;f9;f9;f9;f9;f9;f9;a0,0;a1,0;a2,0;a3,0;a4,0;a7,1;";

    private final Edges edges;

    private ActEdges(Edges edges) {
        this.edges = edges;
    }

    static void hold(Edges edges) {
        ActEdges act = new ActEdges(edges);
        act.eveningsPass();
        act.eveningsAreRefused();
        act.theLastEvening();
        act.oilIsPoured();
        act.flamesArePutOut();
        act.playersAreMoved();
        act.playersAreTurned();
        act.actsAreUndone();
        act.playersAreSeen();
        act.placesAreSeen();
    }

    private void eveningsPass() {
        edges.says(9, "n EVENINGS (1 to 24), an ACT each: what is LIT then (bits).");
        Run run = edges.run("t1;f20;f20;f20;f2;f1;f1;f1;f1;").is(0b1111, "evenings", 1);
        run.tells(1, "count", 3);
        run.tells(1, "count", 8);
        run.is(0b0111, "evenings", 18).is(0, "evenings", 1).is(20, "count", 8).is(20, "count", 3);
        run.is(0, "evenings", 24).is(44, "count", 3).is(24, "count", 8);
    }

    private void eveningsAreRefused() {
        edges.says(9, "BAD; STATE: no TOWN (ahead of BAD);");
        Run run = edges.rich();
        for (int n : new int[] {0, -1, 25, 9999, LEAST, MOST}) {
            run.refused(BAD, "evenings", n);
            edges.run().refused(STATE, "evenings", n);
        }
        edges.run().refused(STATE, "evenings", 1);
        edges.run().refused(STATE, "evenings", 24);
        run.is(0, "evenings", 24);
    }

    private void theLastEvening() {
        edges.says(9, "FULL: beyond EVENING 9999.");
        Run run = edges.run("t1;f0;f0;f0;f0;");
        for (int i = 0; i < 416; i++) {
            run.does("evenings", 24);
        }
        run.is(9984, "count", 3);
        run.refused(FULL, "evenings", 16);
        run.refused(FULL, "evenings", 24);
        run.refused(BAD, "evenings", 25);
        run.refused(BAD, "evenings", 0);
        run.is(0, "evenings", 15).is(9999, "count", 3);
        run.refused(FULL, "evenings", 1);
        run.refused(FULL, "evenings", 24);
        run.refused(BAD, "evenings", 25);
        // What is foretold may lie beyond.
        run.tells(0, "later", 60, 0);
        run.is(23, "undo").is(9998, "count", 3);
        run.refused(FULL, "evenings", 2);
        run.is(0, "evenings", 1).is(9999, "count", 3).is(FULL, "evenings", 1);
        run.is(1, "image", 0).is(1, "restore", 0).is(FULL, "evenings", 1).is(9999, "count", 3);
        run.feed("t1;f0;f0;f0;f0;").is(4, "town").is(0, "evenings", 1).is(1, "count", 3);
    }

    private void oilIsPoured() {
        edges.says(10, "n of OIL (1 to 20) poured: how much there is then.");
        Run run = edges.run("t1;f0;f0;f19;f20;f0;f0;f0;f0;");
        run.is(1, "pour", 0, 1).is(20, "pour", 1, 20).is(20, "pour", 2, 1).is(20, "pour", 3, 1).is(20, "pour", 3, 20);
        run.is(19, "pour", 7, 19).is(20, "pour", 7, 2).is(7, "count", 8).is(6, "undo").is(19, "place", 7, 0);
        edges.says(10, "BAD.");
        Run rich = edges.rich();
        for (int n : new int[] {0, -1, 21, LEAST, MOST}) {
            rich.refused(BAD, "pour", 0, n);
        }
        for (int place : NO_PLACES) {
            rich.refused(BAD, "pour", place, 1);
        }
        edges.run(EIGHT_AND_SIX).refused(BAD, "pour", 8, 1);
        edges.run().refused(BAD, "pour", 0, 1);
    }

    private void flamesArePutOut() {
        edges.says(11, "A FLAME put out: how much OIL it had.");
        Run run = edges.run("t1;f1;f20;f0;f9;f9;f9;f9;f2;");
        run.is(1, "quench", 0).is(20, "quench", 1).is(2, "quench", 7).is(0, "place", 7, 0).is(3, "count", 8);
        edges.says(11, "BAD; STATE: none.");
        run.refused(STATE, "quench", 0);
        run.refused(STATE, "quench", 2);
        run.refused(STATE, "quench", 7);
        run.refused(BAD, "quench", 8);
        Run rich = edges.rich();
        rich.refused(STATE, "quench", 1);
        for (int place : NO_PLACES) {
            rich.refused(BAD, "quench", place);
        }
        edges.run().refused(BAD, "quench", 0);
    }

    private void playersAreMoved() {
        edges.says(12, "A PLAYER is moved to a PLACE: where it was.");
        Run run = edges.run(EIGHT_AND_SIX);
        run.is(0, "move", 0, 7).is(7, "move", 0, 0).is(7, "move", 5, 0).is(0, "move", 5, 7).is(4, "count", 8);
        edges.says(12, "BAD; STATE: it has CROSSED, it is there.");
        run.refused(STATE, "move", 0, 0);
        run.refused(STATE, "move", 5, 7);
        run.refused(BAD, "move", 0, 8);
        run.refused(BAD, "move", 6, 0);
        Run rich = edges.rich();
        rich.refused(STATE, "move", 0, 0);
        rich.refused(STATE, "move", 3, 0);
        rich.refused(STATE, "move", 3, 3);
        for (int place : NO_PLACES) {
            rich.refused(BAD, "move", 0, place);
            rich.refused(BAD, "move", 3, place);
        }
        for (int player : NO_PLAYERS) {
            rich.refused(BAD, "move", player, 0);
        }
        edges.run().refused(BAD, "move", 0, 0);
        edges.run("t1;f0;f0;f0;f0;").refused(BAD, "move", 0, 0);
    }

    private void playersAreTurned() {
        edges.says(13, "WAY is the other one: WAY then.");
        Run run = edges.run(EIGHT_AND_SIX);
        run.is(1, "turn", 0).is(1, "player", 0, 1).is(0, "turn", 0).is(0, "player", 0, 1).is(0, "turn", 5);
        run.is(3, "count", 8).is(2, "undo").is(1, "player", 5, 1);
        edges.says(13, "BAD; STATE: it has CROSSED.");
        run.refused(BAD, "turn", 6);
        Run rich = edges.rich();
        rich.refused(STATE, "turn", 3);
        for (int player : NO_PLAYERS) {
            rich.refused(BAD, "turn", player);
        }
        edges.run().refused(BAD, "turn", 0);
        edges.run("t1;f0;f0;f0;f0;").refused(BAD, "turn", 0);
    }

    private void actsAreUndone() {
        edges.says(14, "The latest ACT is undone: how many can be undone yet. STATE: none.");
        edges.run().refused(STATE, "undo");
        Run run = edges.run("t1;f9;f9;f9;f9;r0,0;");
        run.refused(STATE, "undo");
        run.is(0b1111, "evenings", 2).is(1, "undo").is(1, "count", 3).is(0, "undo").is(0, "count", 3);
        run.tells(0, "player", 0, 0);
        run.refused(STATE, "undo");
    }

    private void playersAreSeen() {
        edges.says(15, "Of a PLAYER: 0 the PLACE (NONE: CROSSED), 1 WAY, 2 whether it has CROSSED (1, 0), 3 CLAPS it would get this EVENING, did it stay.");
        Run run = edges.rich();
        int[] places = {0, 1, 3, NONE, 2};
        int[] ways = {0, 1, 1, 1, 1};
        int[] crossed = {0, 0, 0, 1, 0};
        // Sitters: one each at 0, 1 and 3; place 1 is dark.
        int[] claps = {2, 0, 1, 0, 2};
        for (int i = 0; i < 5; i++) {
            run.tells(places[i], "player", i, 0);
            run.tells(ways[i], "player", i, 1);
            run.tells(crossed[i], "player", i, 2);
            run.tells(claps[i], "player", i, 3);
        }
        Run ends = edges.run("t1;f9;f9;f9;f9;f9;f9;f9;f9;z0;z7;z7;z2;z5;a0,0;a7,0;a1,0;a6,0;");
        int[] atTheEnds = {1, 2, 2, 3};
        for (int i = 0; i < 4; i++) {
            ends.tells(atTheEnds[i], "player", i, 3);
        }
        edges.says(15, "BAD.");
        for (int what : new int[] {-1, 4, LEAST, MOST}) {
            run.refused(BAD, "player", 0, what);
            run.refused(BAD, "player", 3, what);
        }
        for (int player : NO_PLAYERS) {
            run.refused(BAD, "player", player, 0);
        }
        edges.run(EIGHT_AND_SIX).refused(BAD, "player", 6, 0);
        edges.run(EIGHT_AND_SIX).tells(7, "player", 5, 0);
        edges.run("t1;f0;f0;f0;f0;").refused(BAD, "player", 0, 0);
        edges.run().refused(BAD, "player", 0, 0);
    }

    private void placesAreSeen() {
        edges.says(16, "Of a PLACE: 0 OIL, 1 whether it is LIT (1, 0), 2 how many SITTERS, 3 PLAYERS there (bits).");
        Run run = edges.rich();
        int[] oil = {12, 0, 1, 2};
        int[] lit = {1, 0, 1, 1};
        int[] sitters = {1, 1, 0, 1};
        int[] players = {0b00001, 0b00010, 0b10000, 0b00100};
        for (int i = 0; i < 4; i++) {
            run.tells(oil[i], "place", i, 0);
            run.tells(lit[i], "place", i, 1);
            run.tells(sitters[i], "place", i, 2);
            run.tells(players[i], "place", i, 3);
        }
        Run all = edges.run("t1;f9;f9;f9;f9;f9;f9;f9;f9;z7;z7;z7;z7;z7;a7,0;a7,0;a7,0;a7,0;a7,0;r7,1;");
        all.tells(0b111111, "place", 7, 3);
        all.tells(0, "place", 0, 3);
        all.tells(5, "place", 7, 2);
        all.is(255, "evenings", 1);
        all.tells(0b011111, "place", 7, 3);
        all.tells(6, "place", 7, 2);
        edges.says(16, "BAD.");
        for (int what : new int[] {-1, 4, LEAST, MOST}) {
            run.refused(BAD, "place", 0, what);
        }
        for (int place : NO_PLACES) {
            run.refused(BAD, "place", place, 0);
        }
        all.refused(BAD, "place", 8, 0);
        edges.run().refused(BAD, "place", 0, 0);
    }
}
