/** Promises 17 to 31: what is foretold, and images. */
public final class ForetoldTest {
    private static final String FIVE = ActsTest.FIVE;
    private static final String LAD = "t1;f9;f9;f9;f9;l2,0;";
    private static final int NONE = FootLights.NONE, BAD = FootLights.BAD, STATE = FootLights.STATE;
    private static final int NULL = -1000011, PLACE = -1000012;
    private static final Due due = new Due("ForetoldTest");

    public static void main(String[] args) {
        whereTheyAre();
        oilLightAndClaps();
        crossingAndOut();
        theGap();
        whatHolds();
        whatIsToBeFilled();
        whatLures();
        sortsStartsAndWays();
        whereOneMoreSits();
        theWind();
        yearsByDraws();
        images();
        due.close();
    }

    private static void whereTheyAre() {
        FootLights x = Due.townOf(FIVE);
        due.is("now", x.ahead(1, 0), 0);
        due.is("the farmer", x.ahead(0, 1), 0);
        due.is("the lad", x.ahead(1, 1), 1);
        due.is("the lad has crossed", x.ahead(1, 2), NONE);
        due.is("the child", x.ahead(2, 60), 3);
        due.is("the widow", x.ahead(4, 5), 0);
        due.is("the widow has crossed", x.ahead(4, 7), NONE);
        due.is("nothing has changed", x.count(3), 0);
        due.is("d 61", x.ahead(0, 61), BAD);
        due.is("d -1", x.ahead(0, -1), BAD);
        due.is("player 5", x.ahead(5, 0), BAD);
        due.is("player -1", x.ahead(-1, 0), BAD);
    }

    private static void oilLightAndClaps() {
        FootLights x = Due.townOf(FIVE);
        due.is("oil now", x.oil(3, 0), 4);
        due.is("oil then", x.oil(3, 1), 2);
        due.is("oil at last", x.oil(0, 60), 0);
        due.is("place 4", x.oil(4, 0), BAD);
        due.is("place -1", x.oil(-1, 0), BAD);
        due.is("d 61", x.oil(0, 61), BAD);
        due.is("d -1", x.oil(0, -1), BAD);
        due.is("lit now", x.later(0, 0), 0b1101);
        due.is("lit then", x.later(2, 0), 0b0001);
        due.is("claps now", x.later(0, 1), 0);
        due.is("claps then", x.later(2, 1), 8);
        due.is("claps at last", x.later(60, 1), 11);
        x.evenings(1);
        due.is("claps are told in all", x.later(1, 1), 8);
        due.is("what 2", x.later(0, 2), BAD);
        due.is("what -1", x.later(0, -1), BAD);
        due.is("later 61", x.later(61, 0), BAD);
        due.is("later -1", x.later(-1, 0), BAD);
        due.is("no town, ahead of BAD", new FootLights().later(61, 2), STATE);
    }

    private static void crossingAndOut() {
        FootLights x = Due.townOf(FIVE);
        int[] crossing = {NONE, 2, NONE, 1, 7};
        for (int i = 0; i < crossing.length; i++) {
            due.is("crossing " + i, x.crossing(i), crossing[i]);
        }
        int[] out = {3, 0, 2, 2};
        for (int i = 0; i < out.length; i++) {
            due.is("out " + i, x.out(i), out[i]);
        }
        x.evenings(1);
        due.is("it has crossed", x.crossing(3), 0);
        due.is("player 5", x.crossing(5), BAD);
        due.is("player -1", x.crossing(-1), BAD);
        due.is("place 4", x.out(4), BAD);
        due.is("place -1", x.out(-1), BAD);
    }

    private static void theGap() {
        FootLights x = Due.townOf("t1;f0;f5;f0;f0;f5;f0;f0;");
        due.is("the first of the longest", x.gap(0), 2);
        due.is("how many", x.gap(1), 2);
        x.quench(4);
        due.is("from there to the end", x.gap(0), 2);
        due.is("five", x.gap(1), 5);
        x.quench(1);
        due.is("all: the first", x.gap(0), 0);
        due.is("all", x.gap(1), 7);
        due.is("what 2", x.gap(2), BAD);
        due.is("what -1", x.gap(-1), BAD);
        due.is("none is dark", Due.townOf(LAD).gap(0), NONE);
        due.is("none: how many", Due.townOf(LAD).gap(1), NONE);
        due.is("no town, ahead of BAD", new FootLights().gap(2), STATE);
    }

    private static void whatHolds() {
        FootLights x = Due.townOf(FIVE);
        due.is("one evening needs none", x.hold(1, 1, 1), 0);
        due.is("two", x.hold(1, 1, 2), 1);
        due.is("three", x.hold(1, 1, 3), 3);
        due.is("four", x.hold(1, 1, 4), 9);
        due.is("five", x.hold(1, 1, 5), NONE);
        due.is("all 20", Due.townOf("t1;f0;f20;f20;f20;l0,0;r1,0;").hold(0, 0, 10), 20);
        due.is("a cart", x.hold(3, 0, 1), NONE);
        due.is("a farmer", x.hold(0, 0, 30), 0);
        FootLights full = Due.townOf("t3;f20;f20;f20;f20;l0,0;");
        due.is("20 at most", full.hold(0, 0, 30), NONE);
        x.evenings(1);
        due.is("one who has crossed", x.hold(3, 0, 1), NONE);
        due.is("n 0", x.hold(0, 0, 0), BAD);
        due.is("n 31", x.hold(0, 0, 31), BAD);
        due.is("player 5", x.hold(5, 0, 1), BAD);
        due.is("player -1", x.hold(-1, 0, 1), BAD);
        due.is("place 4", x.hold(0, 4, 1), BAD);
        due.is("place -1", x.hold(0, -1, 1), BAD);
    }

    private static void whatIsToBeFilled() {
        FootLights x = Due.townOf(FIVE);
        int[] which = {0b0010, 0b1110, 0b1111};
        for (int n = 1; n <= 3; n++) {
            due.is("how many " + n, x.fill(n, 0), Integer.bitCount(which[n - 1]));
            due.is("which " + n, x.fill(n, 1), which[n - 1]);
        }
        due.is("a player and a widow use it up", x.fill(9, 0), NONE);
        due.is("which then", x.fill(9, 1), NONE);
        due.is("nobody needs more", Due.townOf(LAD).fill(4, 0), 0);
        due.is("which: none", Due.townOf(LAD).fill(4, 1), 0);
        due.is("the lad burns his", Due.townOf(LAD).fill(5, 1), 0b0100);
        due.is("without players", Due.townOf("t1;f20;f19;f20;f20;").fill(19, 1), 0b0010);
        due.is("20 evenings", Due.townOf("t1;f20;f19;f20;f20;").fill(20, 1), NONE);
        due.is("n 0", x.fill(0, 0), BAD);
        due.is("n 31", x.fill(31, 0), BAD);
        due.is("what 2", x.fill(1, 2), BAD);
        due.is("what -1", x.fill(1, -1), BAD);
        due.is("no town, ahead of BAD", new FootLights().fill(0, 2), STATE);
    }

    private static void whatLures() {
        FootLights x = Due.townOf(LAD);
        int[] where = {2, 1, 0};
        for (int n = 1; n <= 3; n++) {
            due.is("where " + n, x.lure(n, 0), where[n - 1]);
            due.is("how many " + n, x.lure(n, 1), 1);
        }
        FootLights five = Due.townOf(FIVE);
        due.is("the lad's place", five.lure(1, 0), 0);
        due.is("he and the cart", five.lure(1, 1), 2);
        FootLights dark = Due.townOf("t1;f0;f0;f0;f0;a0,0;");
        due.is("nothing lures: the first", dark.lure(30, 0), 0);
        due.is("nothing lures: none", dark.lure(30, 1), 0);
        five.evenings(1);
        due.is("those who have crossed, too", five.lure(1, 1), 2);
        due.is("n 0", x.lure(0, 0), BAD);
        due.is("n 31", x.lure(31, 0), BAD);
        due.is("what 2", x.lure(1, 2), BAD);
        due.is("what -1", x.lure(1, -1), BAD);
        due.is("no town, ahead of BAD", new FootLights().lure(0, 2), STATE);
    }

    private static void tell(FootLights x, int row, int... items) {
        x.row(row, 0, items.length);
        for (int i = 0; i < items.length; i++) {
            x.set(row, i, items[i]);
        }
    }

    private static void sortsStartsAndWays() {
        FootLights x = Due.townOf("t1;f9;f9;f9;f0;l2,0;r0,0;");
        tell(x, 0, 7, 3, 99, 99);
        due.is("a lad", x.fits(0, 0, 1, 3, 0), 1 << 2);
        due.is("from 2", x.fits(0, 0, 1, 3, 1), 1 << 2);
        due.is("whichever way", x.fits(0, 0, 1, 3, 2), 0b11);
        due.is("not from item 0", x.fits(0, 0, 0, 3, 0), 0);
        x.turn(0);
        due.is("a lad, a cart, a widow", x.fits(0, 0, 1, 1, 0), 1 << 2 | 1 << 4 | 1 << 5);
        due.is("a lad, a cart", x.fits(0, 0, 1, 2, 0), 1 << 2 | 1 << 4);
        tell(x, 1, 2);
        due.is("a farmer, a child", x.fits(0, 1, 0, 1, 0), 1 << 1 | 1 << 3);
        x.move(0, 0);
        due.is("from 0", x.fits(0, 0, 2, 1, 1), 1 << 3);
        x.evenings(1);
        due.is("no finding", x.status(), 0);
        due.is("one who has crossed, ahead of NULL", x.fits(1, 5, 0, 1, 0), STATE);
        tell(x, 2, 1);
        due.is("a widow stays in an odd evening", x.fits(0, 2, 0, 1, 0) >> 5, 1);
        due.is("a missing row", x.fits(0, 5, 0, 1, 0), NULL);
        due.is("its status", x.status(), 1);
        due.is("beyond the end", x.fits(0, 0, 2, 3, 0), PLACE);
        due.is("its status", x.status(), 2);
        due.is("i below 0", x.fits(0, 0, -1, 1, 0), PLACE);
        due.is("i at the end of ints", x.fits(0, 0, Integer.MAX_VALUE, 12, 0), PLACE);
        due.is("n 0", x.fits(0, 0, 0, 0, 0), BAD);
        due.is("n 13", x.fits(0, 0, 0, 13, 0), BAD);
        due.is("player 2", x.fits(2, 0, 0, 1, 0), BAD);
        due.is("player -1", x.fits(-1, 0, 0, 1, 0), BAD);
        due.is("row 8", x.fits(0, 8, 0, 1, 0), BAD);
        due.is("row -1", x.fits(0, -1, 0, 1, 0), BAD);
        due.is("what 3", x.fits(0, 0, 0, 1, 3), BAD);
        due.is("what -1", x.fits(0, 0, 0, 1, -1), BAD);
        due.is("BAD ahead of STATE", x.fits(1, 0, 0, 0, 0), BAD);
    }

    private static void whereOneMoreSits() {
        FootLights x = Due.townOf("t1;f9;f9;f9;f9;z0;a1,0;a3,0;");
        tell(x, 0, 2, 2, 3, 1);
        due.is("by two claps", x.sits(0, 0, 1), 0b1011);
        due.is("by two and two", x.sits(0, 0, 2), 0b1011);
        due.is("by two and three", x.sits(0, 1, 2), 0);
        due.is("by three", x.sits(0, 2, 1), 0b0100);
        due.is("by one", x.sits(0, 3, 1), 0);
        due.is("no finding", x.status(), 0);
        x.evenings(1);
        due.is("each evening by itself", x.sits(0, 0, 2), 0b1011);
        due.is("nobody sits there for it", x.count(6), 1);
        due.is("a missing row", x.sits(5, 0, 1), NULL);
        due.is("NULL ahead of PLACE", x.sits(5, -1, 1), NULL);
        due.is("beyond the end", x.sits(0, 3, 2), PLACE);
        due.is("its status", x.status(), 2);
        due.is("i below 0", x.sits(0, -1, 1), PLACE);
        due.is("n 0", x.sits(0, 0, 0), BAD);
        due.is("n 13", x.sits(0, 0, 13), BAD);
        due.is("row 8", x.sits(8, 0, 1), BAD);
        due.is("row -1", x.sits(-1, 0, 1), BAD);
        due.is("no town, ahead of BAD", new FootLights().sits(8, 0, 0), STATE);
    }

    private static void wind(FootLights x, int player, int n, int c, int above, int below) {
        due.is("wind above " + player + " " + n + " " + c, x.wind(player, n, c, 0), above);
        due.is("wind below " + player + " " + n + " " + c, x.wind(player, n, c, 1), below);
    }

    private static void theWind() {
        FootLights x = Due.townOf(LAD);
        wind(x, 0, 0, 10, 0, 1);
        wind(x, 0, 1, 3, 3, 10);
        wind(x, 0, 1, 5, 1, 2);
        wind(x, 0, 1, 0, 0, 1);
        wind(x, 0, 1, 10, 1, 1);
        wind(x, 0, 2, 3, 657, 1000);
        wind(x, 0, 3, 3, 7599, 10000);
        FootLights eight = Due.townOf("t1;f9;f9;f9;f9;f9;f9;f9;f9;l0,0;a1,0;c1,0;r0,0;w0,1;");
        FootLights full = Due.townOf("t1;f20;f20;f20;f20;f20;f20;f20;f20;l0,0;");
        wind(full, 0, 8, 1, 100000000 - 43046721, 100000000);
        wind(eight, 1, 30, 7, 0, 1);
        wind(eight, 2, 30, 7, 0, 1);
        wind(eight, 3, 1, 7, 1, 1);
        wind(eight, 4, 14, 7, 0, 1);
        wind(eight, 4, 15, 7, 1, 1);
        FootLights dark = Due.townOf("t1;f0;f9;f0;f9;l0,0;l1,0;");
        wind(dark, 0, 1, 3, 1, 1);
        wind(dark, 1, 1, 3, 3, 10);
        dark.evenings(1);
        wind(dark, 0, 0, 0, 1, 1);
        due.is("n -1", x.wind(0, -1, 0, 0), BAD);
        due.is("n 31", x.wind(0, 31, 0, 0), BAD);
        due.is("c -1", x.wind(0, 0, -1, 0), BAD);
        due.is("c 11", x.wind(0, 0, 11, 0), BAD);
        due.is("what 2", x.wind(0, 0, 0, 2), BAD);
        due.is("what -1", x.wind(0, 0, 0, -1), BAD);
        due.is("player 1", x.wind(1, 0, 0, 0), BAD);
        due.is("player -1", x.wind(-1, 0, 0, 0), BAD);
    }

    private static void yearsByDraws() {
        FootLights x = Due.townOf("t1;f1;f1;f1;f1;z0;z1;z2;z3;a0,0;");
        due.is("none", x.drawn(0, 1, 0), 0);
        due.is("one", x.drawn(1, 1, 0), 2);
        due.is("two", x.drawn(2, 1, 0), 5);
        due.is("nobody has crossed", x.drawn(2, 1, 1), 0);
        due.is("nothing has changed", x.count(7), 15);
        FootLights lad = Due.townOf("t1;f9;f9;f9;f9;z0;l1,0;r0,0;a0,0;");
        due.is("a flame is put out", lad.drawn(1, 3, 1), 2);
        lad.evenings(1);
        due.is("claps so far", lad.count(4), 2);
        due.is("claps of none", lad.drawn(0, 3, 0), 0);
        due.is("who has crossed in all", lad.drawn(0, 3, 1), 1);
        due.is("n -1", x.drawn(-1, 1, 0), BAD);
        due.is("n 61", x.drawn(61, 1, 0), BAD);
        due.is("seed 0", x.drawn(1, 0, 0), BAD);
        due.is("seed 1000000", x.drawn(1, 1000000, 0), BAD);
        due.holds("seed 999999", x.drawn(60, 999999, 0) >= 0);
        due.is("what 2", x.drawn(1, 1, 2), BAD);
        due.is("what -1", x.drawn(1, 1, -1), BAD);
        due.is("no town, ahead of BAD", new FootLights().drawn(61, 0, 2), STATE);
    }

    private static void images() {
        FootLights x = new FootLights();
        due.is("image 2", x.image(2), BAD);
        due.is("image -1", x.image(-1), BAD);
        due.is("no town", x.image(0), STATE);
        due.is("restore 2", x.restore(2), BAD);
        due.is("restore -1", x.restore(-1), BAD);
        due.is("none was kept", x.restore(0), STATE);
        x = Due.townOf(FIVE);
        due.is("an image", x.image(0), 1);
        x.evenings(2);
        due.is("another", x.image(1), 1);
        due.is("acts can be undone yet", x.undo(), 1);
        Due.feed(x, LAD);
        x.town();
        x.row(0, 0, 3);
        x.feed('t');
        due.is("as it was at first", x.restore(0), 1);
        due.is("five players", x.count(2), 5);
        due.is("evening 0", x.count(3), 0);
        due.is("a child", x.kind(2), 3);
        due.is("rows stay", x.count(0), 1);
        due.is("the tape stays", x.count(9), 1);
        x.evenings(1);
        due.is("as it was then", x.restore(1), 1);
        due.is("evening 2", x.count(3), 2);
        due.is("claps", x.count(4), 8);
        due.is("crossed", x.count(5), 2);
        due.is("sitters", x.count(6), 4);
        due.is("no act can be undone", x.undo(), STATE);
        x.evenings(1);
        due.is("an image does not change", x.restore(1), 1);
        due.is("evening 2 again", x.count(3), 2);
    }
}
