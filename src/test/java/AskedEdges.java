/** The edges of promises 32 to 37: kinds, asks, their trace, counts, status. */
final class AskedEdges {
    private static final int NONE = Edges.NONE, BAD = Edges.BAD, STATE = Edges.STATE;
    private static final int NULL = Edges.NULL, PLACE = Edges.PLACE, KIND = Edges.KIND, SIZE = Edges.SIZE, STORE = Edges.STORE;
    private static final int LEAST = Edges.LEAST, MOST = Edges.MOST;
    private static final int[] NO_PLAYERS = {-1, 5, 6, LEAST, MOST};
    private static final String ONE_OF_EACH = "t1;f9;f9;f9;f9;a1,1;l2,0;c3,1;r1,1;w2,0;";
    private static final String EMPTY = "t1;f0;f0;f0;f0;";

    private final Edges edges;

    private AskedEdges(Edges edges) {
        this.edges = edges;
    }

    static void hold(Edges edges) {
        AskedEdges asked = new AskedEdges(edges);
        asked.kindsAreTold();
        asked.kindsOfPlayers();
        asked.takenAs();
        asked.bodiesOfSize();
        asked.bodiesOfMark();
        asked.bodiesBegin();
        asked.asksAreRefused();
        asked.theTrace();
        asked.counts();
        asked.status();
    }

    private void kindsAreTold() {
        edges.says(32, "The KIND of a PLAYER, as told (1 to 5).");
        Run run = edges.run(ONE_OF_EACH);
        for (int i = 0; i < 5; i++) {
            run.tells(i + 1, "kind", i);
        }
        edges.rich().tells(4, "kind", 3);
        edges.run("t1;f0;f0;f0;f0;a0,0;a0,0;a0,0;a0,0;a0,0;w0,0;").tells(5, "kind", 5);
        edges.says(32, "BAD.");
        Run rich = edges.rich();
        for (int player : NO_PLAYERS) {
            rich.refused(BAD, "kind", player);
        }
        edges.run().refused(BAD, "kind", 0);
        edges.run(EMPTY).refused(BAD, "kind", 0);
    }

    private void kindsOfPlayers() {
        edges.says(0, "KINDS of PLAYERS: 0 PLAYER; 1 FARMER, a PLAYER; 2 LAD, a FARMER; 3 CHILD, a FARMER; 4 CART, a PLAYER; 5 WIDOW, a CART. By this it is asked.");
        Run run = edges.run(ONE_OF_EACH);
        int[] is = {0b000011, 0b000111, 0b001011, 0b010001, 0b110001};
        for (int player = 0; player < 5; player++) {
            for (int kind = 0; kind <= 5; kind++) {
                if ((is[player] >> kind & 1) == 1) {
                    run.tellsWithoutFinding(player, "as", player, kind);
                } else {
                    run.finds(KIND, "as", player, kind);
                }
            }
        }
    }

    private void takenAs() {
        edges.says(33, "A PLAYER is taken as one of a KIND (0 .. 5): its number.");
        Run six = edges.run("t1;f0;f0;f0;f0;a0,0;a0,0;a0,0;a0,0;a0,0;w0,0;");
        six.tellsWithoutFinding(0, "as", 0, 0);
        six.tellsWithoutFinding(5, "as", 5, 5);
        Run rich = edges.rich();
        rich.tellsWithoutFinding(3, "as", 3, 4);
        rich.tellsWithoutFinding(4, "as", 4, 5);
        edges.says(33, "BAD; KIND: it is no such one.");
        for (int kind : new int[] {-1, 6, LEAST, MOST}) {
            rich.refused(BAD, "as", 0, kind);
            rich.refused(BAD, "as", 4, kind);
        }
        for (int player : NO_PLAYERS) {
            rich.refused(BAD, "as", player, 0);
            rich.refused(BAD, "as", player, 5);
        }
        rich.finds(KIND, "as", 0, 5);
        rich.finds(KIND, "as", 3, 5);
        rich.finds(KIND, "as", 0, 2);
        rich.finds(KIND, "as", 4, 1);
        edges.run().refused(BAD, "as", 0, 0);
        edges.run(EMPTY).refused(BAD, "as", 0, 0);
    }

    private static void ask(Run run, int answer, int player, int what, int... trace) {
        run.is(answer, "ask", player, what);
        for (int i = 0; i < trace.length; i++) {
            run.is(trace[i], "trace", i);
        }
        run.is(NONE, "trace", trace.length);
    }

    private void bodiesOfSize() {
        edges.says(0, "0 SIZE: 10 lent to all PLAYERS: WAY. 11 of FARMERS: what 10 gives, and MARK. 12 of LADS: 0 less what 11 gives. 13 of CARTS: what 10 gives, less 100. 14 of WIDOWS: what 13 gives, twice.");
        Run run = edges.run(ONE_OF_EACH);
        ask(run, 1 + 1, 0, 0, 11, 10, 21, 20);
        ask(run, -(0 + 6), 1, 0, 12, 11, 10, 24, 21, 20);
        ask(run, 1 - 995, 2, 0, 11, 10, 22, 21, 20);
        ask(run, 1 - 100, 3, 0, 13, 10);
        ask(run, 2 * (0 - 100), 4, 0, 14, 13, 10);
        run.does("turn", 0);
        run.does("turn", 4);
        ask(run, 0 + 1, 0, 0, 11, 10, 21, 20);
        ask(run, 2 * (1 - 100), 4, 0, 14, 13, 10);
        Run zero = edges.run("t1;f9;f9;f9;f9;l0,0;");
        ask(zero, 0, 0, 0, 12, 11, 10, 24, 21, 20);
    }

    private void bodiesOfMark() {
        edges.says(0, "1 MARK: 20 lent to all PLAYERS: the number. 21 of FARMERS: what 20 gives, and the PLACE (where it CROSSED, if it did). 22 of CHILDREN: what 21 gives, less 1000. 23 of CARTS: what 20 gives, less SIZE. 24 of LADS: what 21 gives, twice.");
        Run run = edges.run(ONE_OF_EACH);
        ask(run, 0 + 1, 0, 1, 21, 20);
        ask(run, 2 * (1 + 2), 1, 1, 24, 21, 20);
        ask(run, 2 + 3 - 1000, 2, 1, 22, 21, 20);
        ask(run, 3 - (1 - 100), 3, 1, 23, 20, 13, 10);
        ask(run, 4 - 2 * (0 - 100), 4, 1, 23, 20, 14, 13, 10);
        run.does("move", 0, 3);
        ask(run, 0 + 3, 0, 1, 21, 20);
        Run crossed = edges.run("t1;f9;f9;f9;f9;f9;f9;f9;f0;a7,0;l7,1;r0,0;").is(0b01111111, "evenings", 1).is(2, "count", 5);
        ask(crossed, 2 * (1 + 7), 1, 1, 24, 21, 20);
        ask(crossed, -(1 + 16), 1, 0, 12, 11, 10, 24, 21, 20);
        ask(crossed, 2 - (0 - 100), 2, 1, 23, 20, 13, 10);
        Run zero = edges.run("t1;f9;f9;f9;f9;a0,0;");
        ask(zero, 0, 0, 1, 21, 20);
    }

    private void bodiesBegin() {
        edges.outOfReach(0, "else the one that is lent");
        edges.says(0, "(Of an ask the BODY told for the KIND begins, else that of the nearest KIND that it is, too, else the one that is lent; SIZE, MARK within others are asked of the same PLAYER anew.)");
        Run run = edges.run("t1;f9;f9;f9;f9;c3,1;w2,0;c0,0;");
        // A child has no SIZE of its own, a widow no MARK; within them it is the child's MARK, the widow's SIZE.
        ask(run, 1 + 3 - 1000, 0, 0, 11, 10, 22, 21, 20);
        ask(run, 1 + 200, 1, 1, 23, 20, 14, 13, 10);
        ask(run, 0 + 2 - 1000, 2, 0, 11, 10, 22, 21, 20);
    }

    private void asksAreRefused() {
        edges.says(34, "An ASK (0, 1) of a PLAYER.");
        Run six = edges.run("t1;f9;f9;f9;f9;a0,0;a0,0;a0,0;a0,0;a0,0;a3,1;");
        ask(six, 0, 0, 0, 11, 10, 21, 20);
        ask(six, 8, 5, 1, 21, 20);
        edges.says(34, "BAD. THE TRACE is empty ahead of it.");
        Run rich = edges.rich();
        rich.tells(12, "trace", 0);
        for (int player : NO_PLAYERS) {
            rich.refused(BAD, "ask", player, 0);
            rich.refused(BAD, "ask", player, 1);
        }
        for (int what : new int[] {-1, 2, LEAST, MOST}) {
            rich.refused(BAD, "ask", 0, what);
            rich.refused(BAD, "ask", 3, what);
        }
        edges.run().refused(BAD, "ask", 0, 0);
        edges.run(EMPTY).refused(BAD, "ask", 0, 0);
        // A long trace, then a short one.
        ask(rich, -(1 + 2 * (1 + 1)), 1, 0, 12, 11, 10, 24, 21, 20);
        ask(rich, 0, 0, 1, 21, 20);
        for (int i = 2; i <= 16; i++) {
            rich.tells(NONE, "trace", i);
        }
    }

    private void theTrace() {
        edges.outOfReach(0, "ASKS of PLAYERS, by BODIES, each of which leaves its number in THE TRACE as it begins (the first 16):");
        Run run = edges.run(ONE_OF_EACH);
        for (int i : new int[] {0, 1, 15, 16, -1, LEAST, MOST}) {
            run.tells(NONE, "trace", i);
        }
        edges.says(35, "Number i of THE TRACE; NONE.");
        run.is(-6, "ask", 1, 0);
        int[] trace = {12, 11, 10, 24, 21, 20, NONE, NONE};
        for (int i = 0; i < trace.length; i++) {
            run.tells(trace[i], "trace", i);
        }
        for (int i : new int[] {15, 16, 17, -1, LEAST, MOST}) {
            run.tells(NONE, "trace", i);
        }
        // It stays, whatever else is done.
        run.is(0b1111, "evenings", 1).is(0, "undo").feed(EMPTY).is(4, "town").is(12, "trace", 0).is(20, "trace", 5);
    }

    private void counts() {
        edges.says(36, "How many: 0 ROWS, 1 PLACES, 2 PLAYERS, 3 EVENING, 4 CLAPS, 5 how many have CROSSED, 6 SITTERS, 7 what is LIT (bits), 8 ACTS that can be undone, 9 bytes on the tape.");
        Run none = edges.run();
        for (int what = 0; what <= 9; what++) {
            none.tells(0, "count", what);
        }
        Run rich = edges.rich();
        int[] counts = {4, 4, 5, 1, 3, 1, 3, 0b1101, 3, 20};
        for (int what = 0; what <= 9; what++) {
            rich.tells(counts[what], "count", what);
        }
        Run most = edges.run("t1;f9;f9;f9;f9;f9;f9;f9;f9;z0;z0;z0;z0;z0;r0,0;r0,0;r0,0;r0,0;r0,0;r0,0;");
        for (int row = 0; row < 8; row++) {
            most.does("row", row, 0, 0);
        }
        most.is(255, "evenings", 1);
        int[] atMost = {8, 8, 6, 1, 0, 6, 11, 255, 1, 0};
        for (int what = 0; what <= 9; what++) {
            most.tells(atMost[what], "count", what);
        }
        edges.says(36, "BAD.");
        for (int what : new int[] {-1, 10, LEAST, MOST}) {
            rich.refused(BAD, "count", what);
            none.refused(BAD, "count", what);
        }
    }

    private void status() {
        edges.says(37, "Of the latest call with a ROW, or as(), that was not BAD, STATE, FULL: the number of its FINDING; 0: it had none, or there was none.");
        edges.run().tells(0, "status");
        Run run = edges.run(ONE_OF_EACH);
        run.tells(0, "status");
        int[] numbers = {NULL, PLACE, KIND, SIZE, STORE};
        String[] withARow = {"row", "set", "copy", "drop", "fits", "sits", "as"};
        int[][] fine = {{0, 0, 2}, {0, 0, 1}, {0, 0, 0, 1, 1}, {1}, {0, 0, 0, 1, 0}, {0, 0, 1}, {0, 1}};
        int[][] bad = {{8, 0, 0}, {8, 0, 0}, {8, 0, 0, 0, 0}, {8}, {0, 8, 0, 1, 0}, {8, 0, 1}, {0, 6}};
        run.is(2, "row", 0, 0, 2).is(2, "row", 1, 1, 2);
        for (int number : numbers) {
            find(run, number);
            run.is(number, "status").is(number, "status");
            for (int i = 0; i < withARow.length; i++) {
                run.refused(BAD, withARow[i], bad[i]);
            }
            // Calls without a row leave it, be they refused or not.
            run.is(BAD, "kind", 9).is(1, "kind", 0).is(BAD, "feed", 256).is(STATE, "restore", 0).is(number, "status");
        }
        for (int i = 0; i < withARow.length; i++) {
            find(run, numbers[i % 5]);
            run.is(numbers[i % 5], "status");
            due(run, withARow[i], fine[i]);
            run.is(0, "status").is(2, "row", 1, 1, 2);
        }
        find(run, NULL);
        for (int n = 0; n < 90; n++) {
            run.does("feed", 'a');
        }
        run.is(Edges.FULL, "feed", 'a').is(-1000100, "town").is(NULL, "status");
        Run crossed = edges.rich();
        crossed.is(STATE, "fits", 3, 7, 0, 1, 0).is(KIND, "status");
        crossed.is(-1000011, "fits", 0, 7, 0, 1, 0).is(NULL, "status");
        Run noTown = edges.run().is(-1000014, "row", 0, 0, -1).is(STATE, "sits", 0, 0, 1).is(SIZE, "status");
        noTown.is(0, "row", 0, 0, 0).is(0, "status");
    }

    private static void find(Run run, int number) {
        switch (number) {
            case NULL -> run.is(-1000011, "drop", 7);
            case PLACE -> run.is(-1000012, "set", 0, 2, 1);
            case KIND -> run.is(-1000013, "as", 0, 5);
            case SIZE -> run.is(-1000014, "row", 7, 0, -1);
            default -> run.is(-1000015, "copy", 0, 0, 1, 0, 1);
        }
    }

    private void due(Run run, String name, int[] values) {
        edges.due.holds(Face.told(name, values) + " has no finding", run.does(name, values) >= 0);
    }
}
