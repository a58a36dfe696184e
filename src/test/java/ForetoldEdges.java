/** The edges of promises 17 to 25: what will be, and what would be by oil. */
final class ForetoldEdges {
    private static final int NONE = Edges.NONE, BAD = Edges.BAD, STATE = Edges.STATE;
    private static final int LEAST = Edges.LEAST, MOST = Edges.MOST;
    private static final int[] NO_DAYS = {-1, 61, LEAST, MOST};
    private static final int[] NO_PLANS = {0, -1, 31, LEAST, MOST};
    private static final int[] NO_PLACES = {-1, 4, 7, 8, LEAST, MOST};
    private static final int[] NO_PLAYERS = {-1, 5, 6, LEAST, MOST};
    private static final int[] NEITHER = {-1, 2, LEAST, MOST};

    private final Edges edges;

    private ForetoldEdges(Edges edges) {
        this.edges = edges;
    }

    static void hold(Edges edges) {
        ForetoldEdges foretold = new ForetoldEdges(edges);
        foretold.sixtyEveningsOn();
        foretold.whereAPlayerIs();
        foretold.oilOfAFlame();
        foretold.whatIsLater();
        foretold.theCrossing();
        foretold.theOut();
        foretold.theGap();
        foretold.theHold();
        foretold.theFill();
        foretold.theLure();
    }

    private void sixtyEveningsOn() {
        edges.says(0, "FORETOLD (nothing changes) d EVENINGS on (0 to 60): where a PLAYER is (NONE: CROSSED); OIL of a FLAME; what is LIT (bits); CLAPS.");
        Run run = edges.run("t1;f20;f20;f20;f20;z0;a0,0;r0,0;r0,1;");
        run.tells(0, "ahead", 0, 0);
        run.tells(0, "ahead", 1, 0);
        run.tells(NONE, "ahead", 1, 1);
        run.tells(3, "ahead", 2, 3);
        run.tells(NONE, "ahead", 2, 4);
        run.tells(NONE, "ahead", 2, 60);
        run.tells(20, "oil", 0, 0);
        run.tells(0, "oil", 0, 60);
        run.tells(0b1111, "later", 0, 0);
        run.tells(0, "later", 60, 0);
        run.tells(0, "later", 0, 1);
        // The farmer by the sitter; the cart at 1; from then on by the one who has crossed at 0, too.
        run.tells(2, "later", 1, 1);
        run.tells(4, "later", 2, 1);
    }

    private void whereAPlayerIs() {
        edges.says(17, "Where a PLAYER is; NONE.");
        Run run = edges.rich();
        run.tells(0, "ahead", 0, 0);
        run.tells(NONE, "ahead", 3, 0);
        run.tells(NONE, "ahead", 3, 60);
        run.tells(NONE, "ahead", 1, 1);
        run.tells(0, "ahead", 0, 60);
        edges.says(17, "BAD.");
        for (int d : NO_DAYS) {
            run.refused(BAD, "ahead", 0, d);
            run.refused(BAD, "ahead", 3, d);
        }
        for (int player : NO_PLAYERS) {
            run.refused(BAD, "ahead", player, 0);
        }
        edges.run().refused(BAD, "ahead", 0, 0);
        edges.run("t1;f0;f0;f0;f0;").refused(BAD, "ahead", 0, 0);
    }

    private void oilOfAFlame() {
        edges.says(18, "OIL of a FLAME.");
        Run run = edges.run("t1;f20;f0;f2;f1;f20;f20;f20;f20;");
        run.tells(20, "oil", 7, 0);
        run.tells(1, "oil", 7, 19);
        run.tells(0, "oil", 7, 20);
        run.tells(0, "oil", 7, 60);
        run.tells(0, "oil", 1, 0);
        run.tells(1, "oil", 2, 1);
        run.tells(0, "oil", 3, 1);
        edges.says(18, "BAD.");
        run.refused(BAD, "oil", 8, 0);
        Run rich = edges.rich();
        for (int d : NO_DAYS) {
            rich.refused(BAD, "oil", 0, d);
        }
        for (int place : NO_PLACES) {
            rich.refused(BAD, "oil", place, 0);
        }
        edges.run().refused(BAD, "oil", 0, 0);
    }

    private void whatIsLater() {
        edges.says(19, "What is LIT (what = 0), CLAPS (1), d EVENINGS on.");
        Run run = edges.run("t1;f1;f2;f3;f20;f20;f20;f20;f19;z7;a7,0;");
        run.tells(0b11111111, "later", 0, 0);
        run.tells(0b11111110, "later", 1, 0);
        run.tells(0b11111000, "later", 3, 0);
        run.tells(0, "later", 20, 0);
        run.tells(0, "later", 60, 0);
        run.tells(0, "later", 0, 1);
        run.tells(9, "later", 9, 1);
        run.is(0b11111110, "evenings", 1);
        run.tells(1, "later", 0, 1);
        run.tells(2, "later", 1, 1);
        edges.says(19, "BAD; STATE: no TOWN (ahead of BAD).");
        Run rich = edges.rich();
        Run none = edges.run();
        for (int d : NO_DAYS) {
            rich.refused(BAD, "later", d, 0);
            none.refused(STATE, "later", d, 0);
        }
        for (int what : NEITHER) {
            rich.refused(BAD, "later", 0, what);
            none.refused(STATE, "later", 0, what);
        }
        none.refused(STATE, "later", 0, 1);
    }

    private void theCrossing() {
        edges.outOfReach(0, "CROSSING: behind how many EVENINGS (0 to 60) a PLAYER has CROSSED first; NONE.");
        Run run = edges.run("t1;f20;f20;f20;f20;f20;f20;f20;f20;w0,1;r7,1;a0,0;c0,0;l5,0;w7,1;");
        int[] crossing = {15, 1, NONE, NONE, 10, 1};
        for (int i = 0; i < crossing.length; i++) {
            run.tells(crossing[i], "crossing", i);
        }
        run.is(255, "evenings", 1).is(1, "move", 0, 0);
        run.tells(0, "crossing", 1);
        run.tells(0, "crossing", 5);
        run.tells(16, "crossing", 0);
        run.tells(NONE, "crossing", 2);
        edges.says(20, "CROSSING; NONE. BAD.");
        run.refused(BAD, "crossing", 6);
        Run rich = edges.rich();
        for (int player : NO_PLAYERS) {
            rich.refused(BAD, "crossing", player);
        }
        edges.run().refused(BAD, "crossing", 0);
        edges.run("t1;f0;f0;f0;f0;").refused(BAD, "crossing", 0);
    }

    private void theOut() {
        edges.outOfReach(0, "OUT: behind how many EVENINGS (0 to 60) a PLACE is DARK first; NONE.");
        Run run = edges.run("t1;f20;f0;f1;f2;f20;f20;f20;f19;a0,0;");
        // The farmer burns 1 more: at 0 up to the tenth, at 4 from the fourteenth on, at 5 from the eighteenth on.
        int[] out = {10, 0, 1, 2, 17, 19, 20, 19};
        for (int i = 0; i < out.length; i++) {
            run.tells(out[i], "out", i);
        }
        edges.run("t3;f20;f18;f1;f3;").tells(7, "out", 0);
        edges.run("t3;f20;f18;f1;f3;").tells(6, "out", 1);
        edges.says(21, "OUT; NONE. BAD.");
        run.refused(BAD, "out", 8);
        Run rich = edges.rich();
        for (int place : NO_PLACES) {
            rich.refused(BAD, "out", place);
        }
        edges.run().refused(BAD, "out", 0);
    }

    private void gap(int first, int many, String text) {
        Run run = edges.run(text);
        run.tells(first, "gap", 0);
        run.tells(many, "gap", 1);
    }

    private void theGap() {
        edges.says(0, "GAP: the longest row of DARK PLACES side by side now, of several the first: its first PLACE; how many; NONE: none is DARK.");
        gap(NONE, NONE, "t1;f1;f1;f1;f1;");
        gap(0, 4, "t1;f0;f0;f0;f0;");
        gap(0, 8, "t1;f0;f0;f0;f0;f0;f0;f0;f0;");
        gap(0, 1, "t1;f0;f1;f1;f1;");
        gap(3, 1, "t1;f1;f1;f1;f0;");
        gap(7, 1, "t1;f1;f1;f1;f1;f1;f1;f1;f0;");
        gap(0, 1, "t1;f0;f1;f0;f1;f0;f1;f1;f0;");
        gap(2, 2, "t1;f0;f1;f0;f0;f1;f0;f0;");
        gap(5, 3, "t1;f0;f0;f1;f0;f1;f0;f0;f0;");
        gap(1, 2, "t1;f1;f0;f0;f1;f1;f1;f0;f0;");
        gap(2, 2, "t1;f0;f1;f0;f0;f1;f1;f1;f0;");
        edges.says(22, "GAP: the first PLACE (what = 0), how many (1); NONE.");
        Run run = edges.run("t1;f1;f1;f1;f2;");
        run.tells(NONE, "gap", 0);
        run.tells(NONE, "gap", 1);
        run.is(0b1000, "evenings", 1);
        run.tells(0, "gap", 0);
        run.tells(3, "gap", 1);
        edges.says(22, "BAD; STATE: no TOWN (ahead of BAD).");
        Run rich = edges.rich();
        for (int what : NEITHER) {
            rich.refused(BAD, "gap", what);
            run.refused(BAD, "gap", what);
            edges.run().refused(STATE, "gap", what);
        }
        edges.run().refused(STATE, "gap", 0);
        edges.run().refused(STATE, "gap", 1);
    }

    private void theHold() {
        edges.says(0, "HOLD for a PLAYER, a PLACE, n EVENINGS (1 to 30): the least OIL (0 to 20) poured there now (20 at most there then) by which the PLAYER has not CROSSED behind them; NONE.");
        // In the dark: one evening takes 1, each further one takes 2 more.
        Run dark = edges.run("t1;f0;f20;f20;f20;l0,0;");
        dark.tells(1, "hold", 0, 0, 1);
        dark.tells(3, "hold", 0, 0, 2);
        dark.tells(19, "hold", 0, 0, 10);
        dark.tells(NONE, "hold", 0, 0, 11);
        dark.tells(NONE, "hold", 0, 1, 1);
        // A cart passes and takes 1.
        Run all = edges.run("t1;f0;f20;f20;f20;l0,0;r1,0;");
        all.tells(18, "hold", 0, 0, 9);
        all.tells(20, "hold", 0, 0, 10);
        all.tells(NONE, "hold", 0, 0, 11);
        Run full = edges.run("t1;f20;f20;f20;f20;l0,0;");
        full.tells(0, "hold", 0, 0, 10);
        full.tells(NONE, "hold", 0, 0, 11);
        Run almost = edges.run("t1;f18;f20;f20;f20;l0,0;");
        almost.tells(0, "hold", 0, 0, 9);
        almost.tells(1, "hold", 0, 0, 10);
        almost.tells(NONE, "hold", 0, 0, 11);
        Run others = edges.run("t1;f1;f1;f1;f1;a0,0;c0,0;r3,1;w0,1;");
        others.tells(0, "hold", 0, 3, 30);
        others.tells(0, "hold", 1, 0, 30);
        others.tells(NONE, "hold", 2, 3, 1);
        others.tells(NONE, "hold", 2, 0, 30);
        others.tells(0, "hold", 3, 0, 6);
        others.tells(NONE, "hold", 3, 0, 7);
        edges.says(23, "HOLD; NONE. BAD.");
        Run rich = edges.rich();
        rich.tells(NONE, "hold", 3, 0, 1);
        for (int n : NO_PLANS) {
            rich.refused(BAD, "hold", 0, 0, n);
            rich.refused(BAD, "hold", 3, 0, n);
        }
        for (int player : NO_PLAYERS) {
            rich.refused(BAD, "hold", player, 0, 1);
        }
        for (int place : NO_PLACES) {
            rich.refused(BAD, "hold", 0, place, 1);
        }
        edges.run().refused(BAD, "hold", 0, 0, 1);
        edges.run("t1;f0;f0;f0;f0;").refused(BAD, "hold", 0, 0, 1);
    }

    private void fill(int many, int which, int n, String text) {
        Run run = edges.run(text);
        run.tells(many, "fill", n, 0);
        run.tells(which, "fill", n, 1);
    }

    private void theFill() {
        edges.outOfReach(0, "FILL for n EVENINGS (1 to 30): the fewest PLACES whose FLAMES are filled (20) now so that all are LIT behind them: how many; which (bits), of several the least; NONE.");
        fill(0, 0, 19, "t1;f20;f20;f20;f20;");
        fill(NONE, NONE, 20, "t1;f20;f20;f20;f20;");
        fill(NONE, NONE, 30, "t1;f20;f20;f20;f20;");
        fill(1, 0b1000, 19, "t1;f20;f20;f20;f19;");
        fill(0, 0, 6, "t3;f20;f20;f20;f19;");
        fill(1, 0b1000, 6, "t3;f20;f20;f20;f18;");
        fill(NONE, NONE, 7, "t3;f20;f20;f20;f20;");
        fill(1, 0b0001, 1, "t2;f2;f3;f4;f20;");
        fill(3, 0b0111, 2, "t2;f2;f3;f4;f20;");
        fill(4, 0b1111, 1, "t1;f0;f0;f0;f0;");
        fill(8, 0b11111111, 1, "t1;f0;f0;f0;f0;f0;f0;f0;f0;");
        fill(1, 0b10000000, 1, "t1;f2;f2;f2;f2;f2;f2;f2;f1;");
        fill(0, 0, 9, "t1;f19;f20;f20;f20;a0,0;");
        fill(1, 0b0001, 9, "t1;f18;f20;f20;f20;a0,0;");
        fill(NONE, NONE, 10, "t1;f20;f20;f20;f20;a0,0;");
        // Were the lad's way dark, he would go; as all are to be lit, he stays and burns his own.
        fill(2, 0b0011, 2, "t1;f0;f4;f9;f9;l1,0;");
        edges.says(24, "FILL: how many (what = 0), which (1); NONE.");
        Run run = edges.run("t1;f1;f2;f3;f20;");
        int[] which = {0b0001, 0b0011, 0b0111};
        for (int n = 1; n <= 3; n++) {
            run.tells(n, "fill", n, 0);
            run.tells(which[n - 1], "fill", n, 1);
        }
        run.tells(NONE, "fill", 20, 0);
        run.tells(NONE, "fill", 20, 1);
        edges.says(24, "BAD; STATE: no TOWN (ahead of BAD).");
        plansAreRefused("fill");
    }

    private void plansAreRefused(String name) {
        Run rich = edges.rich();
        Run none = edges.run();
        for (int n : NO_PLANS) {
            rich.refused(BAD, name, n, 0);
            rich.refused(BAD, name, n, 1);
            none.refused(STATE, name, n, 0);
        }
        for (int what : NEITHER) {
            rich.refused(BAD, name, 1, what);
            rich.refused(BAD, name, 30, what);
            none.refused(STATE, name, 1, what);
        }
        none.refused(STATE, name, 1, 0);
        none.refused(STATE, name, 30, 1);
    }

    private void lure(int place, int many, int n, String text) {
        Run run = edges.run(text);
        run.tells(place, "lure", n, 0);
        run.tells(many, "lure", n, 1);
    }

    private void theLure() {
        edges.says(0, "LURE for n EVENINGS (1 to 30): the PLACE whose FLAME, put out now, lets most PLAYERS have CROSSED behind them, of several the first; how many.");
        lure(0, 0, 1, "t1;f9;f9;f9;f9;");
        lure(0, 0, 30, "t1;f0;f0;f0;f0;a0,0;c1,1;");
        lure(2, 1, 1, "t1;f9;f9;f9;f9;l2,0;");
        lure(1, 1, 2, "t1;f9;f9;f9;f9;l2,0;");
        lure(0, 1, 3, "t1;f9;f9;f9;f9;l2,0;");
        lure(0, 1, 30, "t1;f9;f9;f9;f9;l2,0;");
        lure(7, 1, 1, "t1;f9;f9;f9;f9;f9;f9;f9;f9;l7,0;");
        lure(0, 6, 1, "t1;f9;f9;f9;f9;l0,0;l0,0;l0,0;l0,0;l0,0;l0,0;");
        lure(3, 2, 1, "t1;f9;f9;f9;f9;l1,0;l3,0;l3,0;");
        lure(1, 1, 1, "t1;f9;f9;f9;f9;l1,0;l3,0;");
        lure(0, 1, 1, "t1;f9;f9;f9;f9;r3,1;");
        // Were all left alone, both would cross; but one is put out, and the other lad goes there.
        lure(0, 1, 2, "t1;f1;f20;f20;f1;l0,0;l3,0;");
        // One that is dark lets them cross as it does now.
        lure(0, 1, 1, "t1;f0;f9;f9;f9;l0,0;");
        lure(1, 2, 1, "t1;f0;f9;f9;f9;l0,0;l1,0;");
        edges.says(25, "LURE: the PLACE (what = 0), how many (1).");
        Run run = edges.run("t1;f9;f9;f9;f9;r0,0;l2,0;").is(0b1111, "evenings", 1);
        run.tells(2, "lure", 1, 0);
        run.tells(2, "lure", 1, 1);
        edges.says(25, "BAD; STATE: no TOWN (ahead of BAD).");
        plansAreRefused("lure");
    }
}
