/** The edges of what "Terms" say of places, players, an evening and the acts. */
final class EveningEdges {
    private static final int NONE = Edges.NONE, STATE = Edges.STATE;

    private final Edges edges;

    private EveningEdges(Edges edges) {
        this.edges = edges;
    }

    static void hold(Edges edges) {
        EveningEdges evening = new EveningEdges(edges);
        evening.litAndDark();
        evening.theNearest();
        evening.asItBegins();
        evening.farmers();
        evening.lads();
        evening.children();
        evening.carts();
        evening.widows();
        evening.whoeverCrosses();
        evening.claps();
        evening.oilBurns();
        evening.actsAreKept();
        evening.actsOfEachSort();
    }

    /** Where player 0 is behind each evening. */
    private void goes(String text, int... places) {
        Run run = edges.run(text);
        for (int i = 0; i < places.length; i++) {
            run.tells(places[i], "ahead", 0, i + 1);
        }
        for (int place : places) {
            run.does("evenings", 1);
            run.is(place, "player", 0, 0);
        }
    }

    private void litAndDark() {
        edges.says(0, "A PLACE is LIT, if its FLAME has OIL; else DARK.");
        Run run = edges.run("t1;f0;f1;f20;f2;");
        run.tells(0b1110, "count", 7);
        int[] lit = {0, 1, 1, 1};
        for (int i = 0; i < 4; i++) {
            run.tells(lit[i], "place", i, 1);
        }
        run.is(0b1100, "evenings", 1).is(0b0100, "evenings", 1);
        run.tells(0, "place", 3, 1);
        run.is(1, "pour", 0, 1);
        run.tells(1, "place", 0, 1);
        run.tells(0b0101, "count", 7);
    }

    private void theNearest() {
        edges.says(0, "NEAREST of some PLACES: that which is the fewest PLACES apart, of two the lesser one.");
        goes("t1;f0;f9;f0;f9;a2,1;", 1);
        goes("t1;f9;f0;f0;f0;f9;a2,1;", 1);
        goes("t1;f9;f0;f0;f9;a2,0;", 3);
        goes("t1;f9;f0;f0;f9;a1,1;", 0);
        goes("t1;f9;f0;f0;f0;f0;f0;f0;f9;a3,1;", 2);
        goes("t1;f9;f0;f0;f0;f0;f0;f0;f9;a4,0;", 5);
        goes("t1;f9;f0;f9;f0;f9;l2,1;", 1);
        goes("t1;f0;f9;f9;f9;f0;l2,1;", 1);
        goes("t1;f0;f9;f9;f0;l2,0;", 3);
    }

    private void asItBegins() {
        edges.says(0, "An EVENING, by what is LIT as it begins: PLAYER by PLAYER that has not CROSSED goes:");
        // The flame at 0 goes out this evening: the lad there does not know yet, the farmer at 1 goes to it.
        Run run = edges.run("t1;f1;f0;f0;f0;l0,1;a1,0;").is(0, "evenings", 1);
        run.tells(1, "player", 0, 0);
        run.tells(0, "player", 1, 0);
        run.is(0, "evenings", 1);
        run.tells(NONE, "player", 0, 0);
        run.tells(0, "player", 1, 0);
    }

    private void farmers() {
        edges.says(0, "a farmer, if its PLACE is DARK, one PLACE towards the NEAREST one that is LIT (none is: it stays);");
        goes("t1;f9;f9;f9;f9;a2,0;", 2, 2);
        goes("t1;f0;f0;f0;f0;a2,1;", 2, 2);
        goes("t1;f0;f0;f0;f0;a0,0;", 0, 0);
        goes("t1;f0;f0;f0;f0;a3,1;", 3, 3);
        goes("t1;f0;f0;f0;f0;f0;f0;f0;f20;a0,0;", 1, 2, 3, 4, 5, 6, 7, 7);
        goes("t1;f20;f0;f0;f0;f0;f0;f0;f0;a7,1;", 6, 5, 4, 3, 2, 1, 0, 0);
        goes("t1;f2;f0;f0;f0;a3,0;", 2, 1, 1);
    }

    private void lads() {
        edges.says(0, "a lad CROSSES, if its PLACE is DARK, else it goes one PLACE towards the NEAREST that is DARK (none is: it stays);");
        goes("t1;f9;f9;f9;f9;l2,0;", 2, 2);
        goes("t1;f9;f9;f9;f9;l0,0;", 0, 0);
        goes("t1;f9;f9;f9;f9;l3,1;", 3, 3);
        goes("t1;f9;f9;f0;f9;l2,1;", NONE, NONE);
        goes("t1;f0;f0;f0;f0;l0,1;", NONE);
        goes("t1;f20;f20;f20;f20;f20;f20;f20;f0;l0,0;", 1, 2, 3, 4, 5, 6, 7, NONE);
        goes("t1;f0;f20;f20;f20;f20;f20;f20;f20;l7,1;", 6, 5, 4, 3, 2, 1, 0, NONE);
    }

    private void children() {
        edges.says(0, "a child goes one PLACE by WAY, but if there is none, or that is DARK, it stays, WAY is the other one;");
        goes("t1;f20;f20;f20;f20;c2,1;", 3, 3, 2, 1, 0, 0, 1);
        goes("t1;f20;f20;f20;f20;f20;f20;f20;f20;c6,1;", 7, 7, 6);
        goes("t1;f20;f20;f20;f20;c0,0;", 0, 1);
        goes("t1;f20;f0;f20;f20;c2,0;", 2, 3, 3, 2, 2, 3);
        goes("t1;f20;f0;f20;f20;c1,0;", 0, 0, 0);
        goes("t1;f0;f0;f0;f0;c1,0;", 1, 1, 1);
        Run run = edges.run("t1;f20;f20;f0;f20;c1,1;c0,0;c3,1;c0,1;").is(0b1011, "evenings", 1);
        int[] way = {0, 1, 0, 1};
        for (int i = 0; i < 4; i++) {
            run.tells(way[i], "player", i, 1);
        }
    }

    private void carts() {
        edges.says(0, "a cart goes one PLACE by WAY, if there is none it CROSSES;");
        goes("t1;f0;f9;f0;f9;r1,1;", 2, 3, NONE, NONE);
        goes("t1;f0;f9;f0;f9;r2,0;", 1, 0, NONE);
        goes("t1;f9;f9;f9;f9;r0,0;", NONE);
        goes("t1;f9;f9;f9;f9;r0,1;", 1, 2, 3, NONE);
        goes("t1;f9;f9;f9;f9;r3,1;", NONE);
        goes("t1;f9;f9;f9;f9;f9;f9;f9;f9;r0,1;", 1, 2, 3, 4, 5, 6, 7, NONE);
        goes("t1;f9;f9;f9;f9;f9;f9;f9;f9;r7,0;", 6, 5, 4, 3, 2, 1, 0, NONE);
    }

    private void widows() {
        edges.says(0, "a widow as a cart, but stays in EVENINGS that are odd.");
        goes("t1;f9;f0;f9;f0;w1,0;", 0, 0, NONE);
        goes("t1;f9;f0;f9;f0;w2,1;", 3, 3, NONE);
        goes("t1;f9;f9;f9;f9;w0,0;", NONE);
        goes("t1;f9;f9;f9;f9;f9;f9;f9;f9;w0,1;", 1, 1, 2, 2, 3, 3, 4, 4, 5, 5, 6, 6, 7, 7, NONE);
        Run run = edges.run("t1;f9;f9;f9;f9;w1,0;").is(0b1111, "evenings", 1);
        run.tells(2, "crossing", 0);
        run.is(1, "turn", 0);
        run.tells(0, "ahead", 0, 1);
        run.tells(1, "ahead", 0, 2);
    }

    private void whoeverCrosses() {
        edges.says(0, "One who CROSSES is a SITTER at its PLACE from then on, no more on the stage (for good).");
        Run run = edges.run("t1;f9;f0;f9;f9;z3;z3;z3;z3;z3;l1,0;r3,1;w0,0;").is(0b1101, "evenings", 1);
        run.tells(3, "count", 5);
        run.tells(8, "count", 6);
        int[] sitters = {1, 1, 0, 6};
        int[] oil = {8, 0, 8, 8};
        for (int i = 0; i < 4; i++) {
            run.tells(sitters[i], "place", i, 2);
            run.tells(0, "place", i, 3);
            run.tells(oil[i], "place", i, 0);
        }
        for (int player = 0; player < 3; player++) {
            run.tells(NONE, "player", player, 0);
            run.tells(1, "player", player, 2);
            run.tells(0, "player", player, 3);
            run.tells(0, "crossing", player);
            run.refused(STATE, "move", player, 2);
            run.refused(STATE, "turn", player);
        }
        run.is(9, "pour", 1, 9);
        run.does("evenings", 24);
        run.tells(3, "count", 5);
        run.tells(8, "count", 6);
        run.tells(0, "count", 4);
    }

    /** The claps of the first evening. */
    private void claps(int want, String text) {
        Run run = edges.run(text);
        run.tells(want, "later", 1, 1);
        run.does("evenings", 1);
        run.is(want, "count", 4);
    }

    private void claps() {
        edges.outOfReach(0, "(999999 in all at most)");
        edges.says(0, "Then they CLAP: for each PLAYER on the stage in a PLACE that was LIT as many CLAPS as there are SITTERS that were there as the EVENING began, in its PLACE or those beside it");
        claps(0, "t1;f9;f9;f9;f9;a0,0;");
        claps(0, "t1;f9;f9;f9;f9;z0;");
        claps(2, "t1;f9;f9;f9;f9;z0;z1;z2;z3;a0,0;");
        claps(3, "t1;f9;f9;f9;f9;z0;z1;z2;z3;a1,0;");
        claps(2, "t1;f9;f9;f9;f9;z0;z1;z2;z3;a3,0;");
        claps(0, "t1;f9;f9;f9;f9;z3;a0,0;");
        claps(0, "t1;f9;f9;f9;f9;f9;f9;f9;f9;z7;z2;a0,0;");
        claps(0, "t1;f9;f9;f9;f9;f9;f9;f9;f9;z0;z5;a7,0;");
        claps(1, "t1;f9;f9;f9;f9;f9;f9;f9;f9;z6;a7,0;");
        claps(30, "t1;f9;f9;f9;f9;z0;z1;z1;z0;z0;a0,0;a0,0;a0,0;a1,0;a1,0;a0,0;");
        // Where it goes counts, not where it was; a place that goes out this evening was lit.
        claps(1, "t1;f9;f9;f9;f9;z0;r2,0;");
        claps(0, "t1;f9;f9;f9;f9;z0;r1,1;");
        claps(0, "t1;f9;f0;f9;f9;z0;r0,1;");
        claps(1, "t1;f0;f9;f9;f9;z0;r0,1;");
        claps(1, "t3;f9;f1;f9;f9;z0;r0,1;");
        // Whoever crosses gets none, and is a sitter from the next evening on.
        claps(0, "t1;f9;f9;f9;f9;z0;r0,0;");
        Run run = edges.run("t1;f9;f9;f9;f9;r0,0;a0,0;").is(0b1111, "evenings", 1);
        run.tells(0, "count", 4);
        run.is(0b1111, "evenings", 1);
        run.tells(1, "count", 4);
    }

    /** What oil of place 0 is left behind the first evening. */
    private void burns(int want, String text) {
        Run run = edges.run(text);
        run.tells(want, "oil", 0, 1);
        run.does("evenings", 1);
        run.is(want, "place", 0, 0).is(1, "count", 3);
    }

    private void oilBurns() {
        edges.says(0, "Then FLAMES that have OIL burn: BURN less of it, and 1 less more for each PLAYER who is in that PLACE (0 at least). EVENING is 1 more.");
        burns(0, "t1;f0;f9;f9;f9;");
        burns(0, "t1;f1;f9;f9;f9;");
        burns(1, "t1;f2;f9;f9;f9;");
        burns(0, "t3;f1;f9;f9;f9;");
        burns(0, "t3;f3;f9;f9;f9;");
        burns(1, "t3;f4;f9;f9;f9;");
        burns(17, "t3;f20;f9;f9;f9;");
        burns(1, "t3;f10;f9;f9;f9;a0,0;a0,0;a0,0;a0,0;a0,0;a0,0;");
        burns(0, "t3;f9;f9;f9;f9;a0,0;a0,0;a0,0;a0,0;a0,0;a0,0;");
        burns(0, "t3;f8;f9;f9;f9;a0,0;a0,0;a0,0;a0,0;a0,0;a0,0;");
        burns(0, "t3;f1;f9;f9;f9;a0,0;a0,0;a0,0;a0,0;a0,0;a0,0;");
        // Where they are then: one has come, one has gone, one has crossed.
        burns(7, "t1;f9;f9;f9;f9;r1,0;");
        burns(8, "t1;f9;f9;f9;f9;r0,1;");
        burns(8, "t1;f9;f9;f9;f9;r0,0;");
        burns(0, "t1;f0;f9;f9;f9;r1,0;");
        edges.run("t1;f9;f9;f9;f9;").tells(0, "count", 3);
    }

    private void actsAreKept() {
        edges.says(0, "ACTS (24 at most are kept, of more the oldest is forgotten; each can be undone, the latest first):");
        Run run = edges.run("t1;f0;f0;f0;f0;a0,0;");
        run.refused(STATE, "undo");
        for (int n = 1; n <= 24; n++) {
            run.does("pour", n % 4, 1);
            run.is(n, "count", 8);
        }
        Run full = edges.run("t1;f0;f0;f0;f0;");
        full.is(0, "evenings", 24).is(24, "count", 8);
        for (int left = 23; left >= 0; left--) {
            full.is(left, "undo").is(left, "count", 3);
        }
        full.refused(STATE, "undo");
        for (int more = 1; more <= 3; more++) {
            run.does("pour", 0, 1);
            run.is(24, "count", 8);
        }
        for (int left = 23; left >= 0; left--) {
            run.is(left, "undo");
        }
        // Three were forgotten: one each at 1, 2 and 3.
        run.refused(STATE, "undo");
        run.tells(0b1110, "count", 7);
        run.is(1, "pour", 0, 1).is(1, "count", 8).is(0, "undo");
        Run over = edges.run("t1;f0;f0;f0;f0;").is(0, "evenings", 24).is(0, "evenings", 24).is(24, "count", 8);
        for (int left = 23; left >= 0; left--) {
            over.is(left, "undo");
        }
        over.refused(STATE, "undo");
        over.tells(24, "count", 3);
    }

    private void actsOfEachSort() {
        edges.says(0, "an EVENING; OIL poured (20 at most there); a FLAME put out (no OIL); a PLAYER is moved; its WAY is the other one.");
        Run run = edges.run("t1;f5;f0;f3;f4;z0;a1,0;r3,1;");
        run.is(20, "pour", 0, 20).is(3, "quench", 2).is(1, "move", 0, 3).is(1, "turn", 0).is(0b1001, "evenings", 1);
        run.is(5, "count", 8);
        run.tells(1, "count", 5);
        run.is(4, "undo").is(0, "count", 3).is(0, "count", 5).is(1, "count", 6).is(20, "place", 0, 0).is(3, "player", 1, 0);
        run.is(3, "undo").is(0, "player", 0, 1).is(3, "player", 0, 0);
        run.is(2, "undo").is(1, "player", 0, 0).is(0, "place", 2, 0);
        run.is(1, "undo").is(3, "place", 2, 0).is(20, "place", 0, 0);
        run.is(0, "undo").is(5, "place", 0, 0).is(0, "count", 8);
        run.refused(STATE, "undo");
        Run full = edges.run("t1;f19;f18;f20;f0;");
        full.is(20, "pour", 0, 1).is(19, "pour", 1, 1).is(20, "pour", 2, 1).is(20, "pour", 3, 20).is(20, "pour", 1, 20);
        full.is(4, "undo").is(19, "place", 1, 0).is(3, "undo").is(0, "place", 3, 0).is(2, "undo").is(20, "place", 2, 0);
    }
}
