/** Promises 1 to 5 and what status (37) says of them. */
public final class RowsTest {
    private static final int NULL = -1000011, PLACE = -1000012, SIZE = -1000014, STORE = -1000015;
    private static final Due due = new Due("RowsTest");

    public static void main(String[] args) {
        aNewObjectHasNothing();
        rowsAreMade();
        itemsAreSet();
        itemsAreCopied();
        rowsAreDropped();
        statusKeepsTheLatestFinding();
        due.close();
    }

    private static void aNewObjectHasNothing() {
        FootLights x = new FootLights();
        for (int what = 0; what <= 9; what++) {
            due.is("new: count " + what, x.count(what), 0);
        }
        due.is("new: status", x.status(), 0);
        due.is("new: fault", x.fault(), 0);
        due.is("new: trace", x.trace(0), FootLights.NONE);
        due.is("new: evenings", x.evenings(1), FootLights.STATE);
        due.is("new: player", x.player(0, 0), FootLights.BAD);
        for (int row = 0; row < 8; row++) {
            due.is("new: row " + row + " is missing", x.drop(row), NULL);
        }
    }

    private static void rowsAreMade() {
        FootLights x = new FootLights();
        due.is("row of none", x.row(0, 0, 0), 0);
        due.is("row of 40", x.row(7, 2, 40), 40);
        due.is("two rows", x.count(0), 2);
        due.is("row 8", x.row(8, 0, 1), FootLights.BAD);
        due.is("row -1", x.row(-1, 0, 1), FootLights.BAD);
        due.is("lane 3", x.row(0, 3, 1), FootLights.BAD);
        due.is("lane -1", x.row(0, -1, 1), FootLights.BAD);
        due.is("41 items", x.row(0, 0, 41), FootLights.BAD);
        due.is("-1 items", x.row(1, 1, -1), SIZE);
        due.is("least of items", x.row(1, 1, Integer.MIN_VALUE), SIZE);
        due.is("BAD ahead of SIZE", x.row(8, 0, -1), FootLights.BAD);
        due.is("none was made", x.count(0), 2);
        x.set(7, 0, 5);
        x.set(7, 39, 5);
        due.is("a row in place of another", x.row(7, 2, 40), 40);
        due.is("its first item is 0", sameInFits(x, 7, 0), 1);
        x.row(6, 2, 1);
        x.copy(7, 39, 6, 0, 1);
        due.is("its last item is 0", sameInFits(x, 6, 0), 1);
    }

    /** Whether the first item of an int row is v: only fits reads items, by where a farmer in the light stays. */
    private static int sameInFits(FootLights x, int row, int v) {
        Due.feed(x, "t1;f9;f9;f9;f9;a" + v + ",0;");
        x.town();
        return (x.fits(0, row, 0, 1, 0) & 2) != 0 ? 1 : 0;
    }

    private static void itemsAreSet() {
        FootLights x = new FootLights();
        x.row(0, 0, 3);
        x.row(1, 1, 3);
        x.row(2, 2, 3);
        due.is("a byte", x.set(0, 0, 127), 127);
        due.is("a byte's lowest bits", x.set(0, 0, 128), -128);
        due.is("a byte of -1", x.set(0, 2, 255), -1);
        due.is("a byte of 0", x.set(0, 2, 256), 0);
        due.is("a short", x.set(1, 0, 32767), 32767);
        due.is("a short's lowest bits", x.set(1, 0, 32768), -32768);
        due.is("a short of 4464", x.set(1, 2, 70000), 4464);
        due.is("an int", x.set(2, 2, Integer.MIN_VALUE), Integer.MIN_VALUE);
        due.is("row 8", x.set(8, 0, 0), FootLights.BAD);
        due.is("row -1", x.set(-1, 0, 0), FootLights.BAD);
        due.is("no row", x.set(3, 0, 0), NULL);
        due.is("NULL ahead of PLACE", x.set(3, -1, 0), NULL);
        due.is("item 3", x.set(0, 3, 0), PLACE);
        due.is("item -1", x.set(0, -1, 0), PLACE);
        due.is("item at the end of ints", x.set(0, Integer.MAX_VALUE, 0), PLACE);
    }

    private static void itemsAreCopied() {
        FootLights x = new FootLights();
        x.row(0, 2, 5);
        x.row(1, 2, 5);
        x.row(2, 1, 5);
        for (int i = 0; i < 4; i++) {
            x.set(0, i, i);
        }
        due.is("copy upon itself", x.copy(0, 0, 0, 1, 4), 4);
        for (int i = 0; i < 4; i++) {
            x.copy(0, i + 1, 1, 0, 1);
            due.is("as they were ahead: " + i, sameInFits(x, 1, i), 1);
        }
        due.is("copy none", x.copy(0, 5, 1, 5, 0), 0);
        due.is("row a", x.copy(8, 0, 0, 0, 0), FootLights.BAD);
        due.is("row b", x.copy(0, 0, -1, 0, 0), FootLights.BAD);
        due.is("BAD ahead of NULL", x.copy(3, 0, 8, 0, 0), FootLights.BAD);
        due.is("a is missing", x.copy(3, 0, 0, 0, 0), NULL);
        due.is("b is missing", x.copy(0, 0, 3, 0, 0), NULL);
        due.is("two lanes", x.copy(0, 0, 2, 0, 1), STORE);
        due.is("two lanes, none", x.copy(0, 0, 2, 0, 0), STORE);
        due.is("STORE ahead of PLACE", x.copy(0, -1, 2, 0, 1), STORE);
        due.is("i below 0", x.copy(0, -1, 1, 0, 1), PLACE);
        due.is("j below 0", x.copy(0, 0, 1, -1, 1), PLACE);
        due.is("n below 0", x.copy(0, 0, 1, 0, -1), PLACE);
        due.is("beyond the end of a", x.copy(0, 3, 1, 0, 3), PLACE);
        due.is("beyond the end of b", x.copy(0, 0, 1, 3, 3), PLACE);
        due.is("none from beyond the end", x.copy(0, 6, 1, 0, 0), PLACE);
        due.is("far beyond", x.copy(0, 1, 1, 1, Integer.MAX_VALUE), PLACE);
        due.is("from far beyond", x.copy(0, Integer.MAX_VALUE, 1, Integer.MAX_VALUE, 1), PLACE);
    }

    private static void rowsAreDropped() {
        FootLights x = new FootLights();
        x.row(0, 0, 7);
        due.is("drop", x.drop(0), 7);
        due.is("no rows", x.count(0), 0);
        due.is("drop again", x.drop(0), NULL);
        due.is("drop 8", x.drop(8), FootLights.BAD);
        due.is("drop -1", x.drop(-1), FootLights.BAD);
        x.row(0, 0, 0);
        due.is("a row of none is a row", x.drop(0), 0);
    }

    private static void statusKeepsTheLatestFinding() {
        FootLights x = new FootLights();
        x.row(0, 0, -1);
        due.is("SIZE", x.status(), 4);
        due.is("SIZE yet", x.status(), 4);
        x.row(0, 0, 41);
        due.is("not by BAD", x.status(), 4);
        x.feed('t');
        x.town();
        x.evenings(1);
        x.sits(0, 0, 1);
        due.is("not by STATE, nor by calls without rows", x.status(), 4);
        x.set(0, 0, 0);
        due.is("NULL", x.status(), 1);
        x.row(0, 0, 1);
        due.is("none", x.status(), 0);
        x.set(0, 1, 0);
        due.is("PLACE", x.status(), 2);
        x.row(1, 1, 1);
        x.copy(0, 0, 1, 0, 1);
        due.is("STORE", x.status(), 5);
        x.drop(1);
        due.is("drop has none", x.status(), 0);
        x.drop(1);
        due.is("drop of a missing one", x.status(), 1);
        x.set(0, 0, 9);
        due.is("set has none", x.status(), 0);
        x.copy(0, 0, 2, 0, 0);
        due.is("copy to a missing one", x.status(), 1);
        x.copy(0, 0, 0, 0, 1);
        due.is("copy has none", x.status(), 0);
    }
}
