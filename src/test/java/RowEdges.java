/** The edges of promises 1 to 5, and of what "Terms" say of refusals, findings and rows. */
final class RowEdges {
    private static final int BAD = Edges.BAD, STATE = Edges.STATE, NONE = Edges.NONE;
    private static final int NULL = Edges.NULL, PLACE = Edges.PLACE, SIZE = Edges.SIZE, STORE = Edges.STORE;
    private static final int LEAST = Edges.LEAST, MOST = Edges.MOST;
    /** All is lit, so that the farmer stays and the bit of where it may be tells an item from 0 to 7. */
    private static final String READER = "t1;f9;f9;f9;f9;f9;f9;f9;f9;a0,0;";

    private final Edges edges;

    private RowEdges(Edges edges) {
        this.edges = edges;
    }

    static void hold(Edges edges) {
        RowEdges row = new RowEdges(edges);
        row.aNewObject();
        row.rowsAtFirst();
        row.rowsAreMade();
        row.rowsAreNotMade();
        row.itemsAreSet();
        row.itemsAreNotSet();
        row.itemsAreCopied();
        row.itemsAreNotCopied();
        row.rowsAreDropped();
        row.refusalsInTheirOrder();
        row.findingsInTheirOrder();
    }

    private void item(Run run, int row, int i, int v) {
        run.tellsWithoutFinding(1 << v, "fits", 0, row, i, 1, 1);
    }

    private void aNewObject() {
        edges.says(1, "No TOWN.");
        Run run = edges.run();
        for (int what = 0; what <= 9; what++) {
            run.tells(0, "count", what);
        }
        run.tells(0, "status");
        run.tells(0, "fault");
        run.tells(NONE, "trace", 0);
        for (String bySTATE : new String[] {"evenings 1", "undo", "later 0 0", "gap 0", "fill 1 0", "lure 1 0",
            "sits 0 0 1", "drawn 0 1 0", "image 0", "image 1", "restore 0", "restore 1"}) {
            refuse(run, STATE, bySTATE);
        }
        for (String byBAD : new String[] {"pour 0 1", "quench 0", "move 0 0", "turn 0", "player 0 0", "place 0 0",
            "ahead 0 0", "oil 0 0", "crossing 0", "out 0", "hold 0 0 1", "fits 0 0 0 1 0", "wind 0 0 0 0", "kind 0",
            "as 0 0", "ask 0 0"}) {
            refuse(run, BAD, byBAD);
        }
    }

    private static void refuse(Run run, int want, String call) {
        String[] words = call.split(" ");
        int[] values = new int[words.length - 1];
        for (int i = 0; i < values.length; i++) {
            values[i] = Integer.parseInt(words[i + 1]);
        }
        run.refused(want, words[0], values);
    }

    private void rowsAtFirst() {
        edges.says(0, "ROWS 0 .. 7 are missing (at first), or have a LANE (0 bytes, 1 shorts, 2 ints) and 0 to 40 ITEMS, 0 at first.");
        Run none = edges.run();
        for (int row = 0; row < 8; row++) {
            none.finds(NULL, "drop", row);
        }
        Run all = edges.run(READER);
        for (int row = 0; row < 8; row++) {
            all.is(40, "row", row, row % 3, 40);
            all.tells(row + 1, "count", 0);
        }
        for (int row = 0; row < 8; row++) {
            item(all, row, 0, 0);
            item(all, row, 39, 0);
            all.finds(PLACE, "fits", 0, row, 40, 1, 1);
        }
        Run empty = edges.run();
        empty.is(0, "row", 0, 0, 0).is(1, "row", 1, 0, 1);
        empty.finds(PLACE, "set", 0, 0, 0);
        empty.is(0, "set", 1, 0, 0);
        empty.tells(2, "count", 0);
    }

    private void rowsAreMade() {
        edges.says(2, "A ROW of a LANE with n ITEMS, in place of what is there: n.");
        Run run = edges.run(READER);
        run.is(40, "row", 0, 2, 40).is(5, "set", 0, 0, 5).is(6, "set", 0, 3, 6).is(7, "set", 0, 39, 7);
        item(run, 0, 39, 7);
        run.is(3, "row", 0, 2, 3);
        item(run, 0, 0, 0);
        run.finds(PLACE, "set", 0, 3, 1);
        run.is(40, "row", 0, 2, 40);
        item(run, 0, 0, 0);
        item(run, 0, 3, 0);
        item(run, 0, 39, 0);
        run.is(2, "row", 0, 0, 2).is(-56, "set", 0, 0, 200);
        run.is(2, "row", 0, 1, 2).is(200, "set", 0, 0, 200);
        run.is(0, "row", 0, 1, 0);
        run.tells(1, "count", 0);
        run.is(0, "drop", 0).is(1, "row", 0, 1, 1);
        item(run, 0, 0, 0);
    }

    private void rowsAreNotMade() {
        edges.says(2, "BAD: ROW, LANE, n above 40; SIZE.");
        Run run = edges.rich();
        for (int row : new int[] {-1, 8, LEAST, MOST}) {
            run.refused(BAD, "row", row, 0, 1);
            run.refused(BAD, "row", row, 0, -1);
        }
        for (int lane : new int[] {-1, 3, LEAST, MOST}) {
            run.refused(BAD, "row", 0, lane, 1);
            run.refused(BAD, "row", 0, lane, -1);
        }
        for (int n : new int[] {41, 42, MOST}) {
            run.refused(BAD, "row", 0, 0, n);
            run.refused(BAD, "row", 7, 2, n);
        }
        for (int n : new int[] {-1, -40, LEAST}) {
            run.finds(SIZE, "row", 0, 0, n);
            run.finds(SIZE, "row", 7, 2, n);
        }
        run.is(40, "row", 0, 0, 40).is(0, "row", 7, 2, 0);
    }

    private void itemsAreSet() {
        edges.says(3, "ITEM i becomes v, its lowest bits, as many as the LANE has: what it is then.");
        Run run = edges.run();
        run.is(2, "row", 0, 0, 2).is(2, "row", 1, 1, 2).is(2, "row", 2, 2, 2);
        int[][] bytes = {{127, 127}, {128, -128}, {255, -1}, {256, 0}, {-128, -128}, {-129, 127}, {-256, 0},
            {MOST, -1}, {LEAST, 0}};
        int[][] shorts = {{128, 128}, {32767, 32767}, {32768, -32768}, {65535, -1}, {65536, 0}, {-32768, -32768},
            {-32769, 32767}, {MOST, -1}, {LEAST, 0}};
        int[][] ints = {{32768, 32768}, {65536, 65536}, {-32769, -32769}, {MOST, MOST}, {LEAST, LEAST}};
        int[][][] lanes = {bytes, shorts, ints};
        for (int lane = 0; lane < 3; lane++) {
            for (int[] pair : lanes[lane]) {
                run.is(pair[1], "set", lane, 1, pair[0]);
                run.tells(0, "status");
            }
        }
        Run kept = edges.run(READER);
        kept.is(2, "row", 0, 0, 2).is(7, "set", 0, 1, 256 + 7);
        item(kept, 0, 0, 0);
        item(kept, 0, 1, 7);
    }

    private void itemsAreNotSet() {
        edges.says(3, "BAD: ROW; NULL; PLACE.");
        Run run = edges.rich();
        for (int row : new int[] {-1, 8, LEAST, MOST}) {
            run.refused(BAD, "set", row, 0, 1);
            run.refused(BAD, "set", row, -1, 1);
        }
        for (int row = 4; row < 8; row++) {
            run.finds(NULL, "set", row, 0, 1);
            run.finds(NULL, "set", row, -1, 1);
            run.finds(NULL, "set", row, 40, 1);
        }
        for (int i : new int[] {-1, 3, 39, 40, LEAST, MOST}) {
            run.finds(PLACE, "set", 0, i, 1);
        }
        run.finds(PLACE, "set", 2, 40, 1);
        run.finds(PLACE, "set", 3, 0, 1);
        run.is(1, "set", 0, 0, 1).is(1, "set", 0, 2, 1).is(1, "set", 2, 39, 1);
    }

    private Run oneTo(int last) {
        Run run = edges.run(READER);
        run.does("row", 0, 2, last);
        for (int i = 0; i < last; i++) {
            run.does("set", 0, i, i + 1);
        }
        return run;
    }

    private void items(Run run, int row, int... items) {
        for (int i = 0; i < items.length; i++) {
            item(run, row, i, items[i]);
        }
    }

    private void itemsAreCopied() {
        edges.says(4, "n ITEMS of a from i on come to b from j on, as they were ahead: n.");
        Run up = oneTo(5).is(4, "copy", 0, 0, 0, 1, 4);
        items(up, 0, 1, 1, 2, 3, 4);
        Run down = oneTo(5).is(4, "copy", 0, 1, 0, 0, 4);
        items(down, 0, 2, 3, 4, 5, 5);
        Run same = oneTo(5).is(5, "copy", 0, 0, 0, 0, 5);
        items(same, 0, 1, 2, 3, 4, 5);
        Run other = oneTo(5).is(7, "row", 1, 2, 7).is(3, "copy", 0, 2, 1, 4, 3);
        items(other, 1, 0, 0, 0, 0, 3, 4, 5);
        items(other, 0, 1, 2, 3, 4, 5);
        Run none = oneTo(5).is(0, "row", 1, 2, 0);
        none.is(0, "copy", 0, 5, 1, 0, 0).is(0, "copy", 1, 0, 0, 5, 0).is(0, "copy", 0, 0, 0, 5, 0);
        items(none, 0, 1, 2, 3, 4, 5);
        Run whole = edges.run(READER).is(40, "row", 0, 0, 40).is(40, "row", 7, 0, 40).is(6, "set", 0, 39, 6);
        whole.is(40, "copy", 0, 0, 7, 0, 40);
        item(whole, 7, 39, 6);
        item(whole, 7, 38, 0);
    }

    private void itemsAreNotCopied() {
        edges.says(4, "BAD: ROWS; NULL; STORE; PLACE (i, j, n below 0, or beyond an end).");
        Run run = edges.rich();
        for (int row : new int[] {-1, 8, LEAST, MOST}) {
            run.refused(BAD, "copy", row, 0, 0, 0, 1);
            run.refused(BAD, "copy", 0, 0, row, 0, 1);
            run.refused(BAD, "copy", row, 0, 7, -1, -1);
            run.refused(BAD, "copy", 7, 0, row, -1, -1);
        }
        run.finds(NULL, "copy", 7, 0, 0, 0, 0);
        run.finds(NULL, "copy", 0, 0, 7, 0, 0);
        run.finds(NULL, "copy", 7, 0, 7, 0, 0);
        run.finds(NULL, "copy", 7, -1, 0, -1, -1);
        run.finds(NULL, "copy", 0, -1, 7, -1, -1);
        int[][] twoLanes = {{0, 1}, {0, 2}, {1, 0}, {1, 2}, {2, 0}, {2, 1}};
        for (int[] rows : twoLanes) {
            run.finds(STORE, "copy", rows[0], 0, rows[1], 0, 1);
            run.finds(STORE, "copy", rows[0], 0, rows[1], 0, 0);
            run.finds(STORE, "copy", rows[0], -1, rows[1], 41, -1);
        }
        int[][] beyond = {{-1, 0, 1}, {0, -1, 1}, {0, 0, -1}, {LEAST, 0, 1}, {0, LEAST, 1}, {0, 0, LEAST}, {3, 0, 1},
            {0, 3, 1}, {0, 0, 4}, {2, 0, 2}, {0, 2, 2}, {4, 0, 0}, {0, 4, 0}, {MOST, 0, 1}, {0, MOST, 1}, {0, 0, MOST},
            {1, 1, MOST}, {MOST, MOST, MOST}, {-1, 0, 0}, {0, -1, 0}, {4, 0, -1}, {0, 4, -1}};
        for (int[] to : beyond) {
            run.finds(PLACE, "copy", 0, to[0], 0, to[1], to[2]);
        }
        run.finds(PLACE, "copy", 2, 0, 3, 0, 1);
        run.finds(PLACE, "copy", 3, 0, 2, 0, 1);
        run.finds(PLACE, "copy", 2, 39, 2, 0, 2);
        run.is(3, "copy", 0, 0, 0, 0, 3).is(1, "copy", 0, 2, 0, 0, 1).is(1, "copy", 0, 0, 0, 2, 1);
        run.is(0, "copy", 0, 3, 0, 3, 0).is(1, "copy", 2, 39, 2, 38, 1).is(0, "copy", 3, 0, 3, 0, 0);
    }

    private void rowsAreDropped() {
        edges.says(5, "A ROW is missing from now on: how many ITEMS it had. BAD; NULL.");
        Run run = edges.rich();
        for (int row : new int[] {-1, 8, LEAST, MOST}) {
            run.refused(BAD, "drop", row);
        }
        run.finds(NULL, "drop", 4);
        run.finds(NULL, "drop", 7);
        run.is(3, "drop", 0).is(0, "drop", 3).is(40, "drop", 2);
        run.tells(1, "count", 0);
        run.finds(NULL, "drop", 0);
        run.finds(NULL, "drop", 3);
        run.finds(NULL, "set", 0, 0, 0);
        run.is(2, "drop", 1);
        run.tells(0, "count", 0);
        run.tells(0, "status");
    }

    private void refusalsInTheirOrder() {
        edges.says(0, "Refusals are answers, the first of these that fits, but as told: BAD (a number is not as told; there is no such thing), STATE (as told), FULL (as told), then FINDINGS");
        Run run = edges.rich();
        run.refused(BAD, "fits", 3, 8, -1, 13, 3);
        run.refused(STATE, "fits", 3, 7, -1, 12, 2);
        run.finds(NULL, "fits", 2, 7, -1, 12, 2);
        run.finds(PLACE, "fits", 2, 0, -1, 12, 2);
        run.refused(BAD, "move", 3, 4);
        run.refused(STATE, "move", 3, 3);
        run.refused(BAD, "as", 0, 6);
        run.finds(Edges.KIND, "as", 0, 5);
        run.refused(BAD, "restore", 2);
        run.refused(STATE, "restore", 1);
        Run none = edges.run();
        none.refused(BAD, "image", 2);
        none.refused(STATE, "image", 1);
        none.refused(STATE, "sits", 8, -1, 13);
        edges.says(0, "What is refused, or found, changes nothing but status().");
        run.refused(BAD, "row", 0, 3, 40);
        run.refused(STATE, "turn", 3);
        run.finds(SIZE, "row", 0, 0, -1);
    }

    private void findingsInTheirOrder() {
        edges.says(0, ", of several the first in time: -1000010 less 1 NULL (a ROW that is missing), 2 PLACE (no such place of a ROW), 3 KIND (a PLAYER that is not that), 4 SIZE (fewer than none), 5 STORE (ROWS of two LANES).");
        Run run = edges.rich();
        run.tells(3, "status");
        run.is(-1000011, "set", 7, 40, 0).is(1, "status");
        run.is(-1000012, "set", 0, 3, 0).is(2, "status");
        run.is(-1000013, "as", 0, 2).is(3, "status");
        run.is(-1000014, "row", 0, 0, -1).is(4, "status");
        run.is(-1000015, "copy", 0, 3, 1, 2, 1).is(5, "status");
        run.is(-1000011, "copy", 0, 3, 7, 2, 1).is(1, "status");
        edges.says(0, "Numbers go from 0 on.");
        run.is(1, "set", 0, 0, 1).is(0, "status");
        run.tells(12, "place", 0, 0);
        edges.says(0, "Sets are bits.");
        run.tells(0b1101, "count", 7);
        run.tells(0b00100, "place", 3, 3);
    }
}
