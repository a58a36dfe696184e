/** Promises 9 to 16: evenings and the other acts, undone, and what is seen of players and places. */
public final class ActsTest {
    /** Oil 5 0 3 4; a farmer at 1, a lad at 0, a child at 2 (up), a cart at 3 (up), a widow at 3 (down). */
    static final String FIVE = "t1;f5;f0;f3;f4;z0;z1;a1,0;l0,1;c2,1;r3,1;w3,0;";
    private static final int NONE = FootLights.NONE, BAD = FootLights.BAD, STATE = FootLights.STATE;
    private static final Due due = new Due("ActsTest");

    public static void main(String[] args) {
        anEveningIsPlayed();
        farmersGoToTheLight();
        ladsGoToTheDark();
        childrenTurn();
        cartsAndWidowsCross();
        clapsAreOfThoseWhoSatAndWereLit();
        eveningsAreRefused();
        oilIsPoured();
        flamesArePutOut();
        playersAreMoved();
        playersAreTurned();
        actsAreUndone();
        playersAndPlacesAreSeen();
        due.close();
    }

    private static void is(FootLights x, String when, int[] places, int[] oil, int claps) {
        for (int i = 0; i < places.length; i++) {
            due.is(when + ": player " + i, x.player(i, 0), places[i]);
        }
        for (int i = 0; i < oil.length; i++) {
            due.is(when + ": oil " + i, x.place(i, 0), oil[i]);
        }
        due.is(when + ": claps", x.count(4), claps);
    }

    private static void anEveningIsPlayed() {
        FootLights x = Due.townOf(FIVE);
        due.is("lit behind the first", x.evenings(1), 0b1101);
        is(x, "first", new int[] {0, 1, 3, NONE, 2}, new int[] {3, 0, 1, 2}, 3);
        due.is("lit behind the second", x.evenings(1), 0b0001);
        is(x, "second", new int[] {0, NONE, 3, NONE, 2}, new int[] {1, 0, 0, 0}, 8);
        due.is("the child has turned", x.player(2, 1), 0);
        due.is("lit behind the third", x.evenings(1), 0);
        is(x, "third", new int[] {0, NONE, 3, NONE, 1}, new int[] {0, 0, 0, 0}, 11);
        due.is("the child has turned again", x.player(2, 1), 1);
        due.is("four more", x.evenings(4), 0);
        is(x, "seventh", new int[] {0, NONE, 3, NONE, NONE}, new int[] {0, 0, 0, 0}, 11);
        due.is("EVENING", x.count(3), 7);
        due.is("three have crossed", x.count(5), 3);
        due.is("they sit with the two", x.count(6), 5);
        int[] sitters = {2, 2, 0, 1};
        for (int i = 0; i < 4; i++) {
            due.is("sitters at " + i, x.place(i, 2), sitters[i]);
        }
        due.is("an act each", x.count(8), 7);
    }

    private static void goes(String text, int player, int... places) {
        FootLights x = Due.townOf(text);
        for (int i = 0; i < places.length; i++) {
            x.evenings(1);
            due.is(text + " evening " + i, x.player(player, 0), places[i]);
        }
    }

    private static void farmersGoToTheLight() {
        goes("t1;f0;f9;f0;f9;a2,0;", 0, 1, 1);
        goes("t1;f9;f0;f0;f9;a2,0;", 0, 3, 3);
        goes("t1;f9;f0;f0;f0;f9;a2,0;", 0, 1, 0, 0);
        goes("t1;f0;f0;f0;f0;f0;f0;f0;f9;a0,0;", 0, 1, 2, 3);
        goes("t1;f0;f0;f0;f0;a2,0;", 0, 2, 2);
        goes("t1;f9;f9;f9;f9;a2,0;", 0, 2, 2);
    }

    private static void ladsGoToTheDark() {
        goes("t1;f9;f9;f9;f9;l2,0;", 0, 2, 2);
        goes("t1;f9;f0;f9;f0;l2,1;", 0, 1, NONE, NONE);
        goes("t1;f0;f9;f9;f9;l3,1;", 0, 2, 1, 0, NONE);
        goes("t1;f9;f9;f0;f9;l2,1;", 0, NONE);
    }

    private static void childrenTurn() {
        goes("t1;f9;f9;f9;f9;c2,1;", 0, 3, 3, 2, 1, 0, 0, 1);
        goes("t1;f9;f0;f9;f9;c2,0;", 0, 2, 3, 3, 2, 2);
        goes("t1;f0;f0;f0;f0;c2,0;", 0, 2, 2, 2);
        goes("t1;f9;f0;f9;f9;c1,0;", 0, 0, 0);
    }

    private static void cartsAndWidowsCross() {
        goes("t1;f0;f9;f0;f9;r1,1;", 0, 2, 3, NONE, NONE);
        goes("t1;f0;f9;f0;f9;r1,0;", 0, 0, NONE);
        goes("t1;f0;f9;f0;f9;w1,0;", 0, 0, 0, NONE);
        FootLights cart = Due.townOf("t1;f0;f9;f0;f9;r3,1;");
        cart.evenings(1);
        due.is("it sits where it was", cart.place(3, 2), 1);
        FootLights x = Due.townOf("t1;f9;f9;f9;f9;w0,0;");
        due.is("a widow in an even evening", x.crossing(0), 1);
        x.move(0, 1);
        x.evenings(1);
        due.is("she goes", x.player(0, 0), 0);
        due.is("then an odd one", x.crossing(0), 2);
    }

    private static void clapsAreOfThoseWhoSatAndWereLit() {
        FootLights x = Due.townOf("t1;f9;f0;f9;f9;f9;z0;z1;z1;z3;a2,0;r4,1;");
        x.evenings(1);
        due.is("the one who crosses is no sitter yet", x.count(4), 3);
        x.move(0, 3);
        x.evenings(1);
        due.is("then it is", x.count(4), 3 + 2);
        FootLights dark = Due.townOf("t1;f9;f0;f9;f9;z0;z1;r0,1;");
        dark.evenings(1);
        due.is("none in the dark", dark.count(4), 0);
        FootLights out = Due.townOf("t3;f9;f1;f9;f9;z1;r0,1;");
        due.is("a flame burns out", out.evenings(1), 13);
        due.is("but it was lit", out.count(4), 1);
        due.is("not twice", out.evenings(1), 13);
        due.is("beside it there is one", out.count(4), 2);
    }

    private static void eveningsAreRefused() {
        FootLights x = new FootLights();
        due.is("no town, ahead of BAD", x.evenings(0), STATE);
        x = Due.townOf(FIVE);
        due.is("none", x.evenings(0), BAD);
        due.is("less than none", x.evenings(-1), BAD);
        due.is("25", x.evenings(25), BAD);
        due.is("nothing has changed", x.count(3), 0);
        for (int i = 0; i < 416; i++) {
            x.evenings(24);
        }
        due.is("evening 9984", x.count(3), 9984);
        due.is("beyond 9999", x.evenings(16), FootLights.FULL);
        due.is("BAD ahead of FULL", x.evenings(25), BAD);
        due.is("up to 9999", x.evenings(15), 0);
        due.is("evening 9999", x.count(3), 9999);
        due.is("one more", x.evenings(1), FootLights.FULL);
        due.is("it can be foretold", x.later(60, 0), 0);
        due.is("24 can be undone", x.count(8), 24);
        due.is("undone", x.undo(), 23);
        due.is("evening 9998", x.count(3), 9998);
    }

    private static void oilIsPoured() {
        FootLights x = Due.townOf(FIVE);
        due.is("into the dark", x.pour(1, 1), 1);
        due.is("more", x.pour(1, 18), 19);
        due.is("20 at most", x.pour(1, 20), 20);
        due.is("into a full one", x.pour(1, 1), 20);
        due.is("an act each", x.count(8), 4);
        due.is("none", x.pour(1, 0), BAD);
        due.is("21", x.pour(1, 21), BAD);
        due.is("place 4", x.pour(4, 1), BAD);
        due.is("place -1", x.pour(-1, 1), BAD);
        due.is("no town", new FootLights().pour(0, 1), BAD);
        due.is("no act was refused", x.count(8), 4);
    }

    private static void flamesArePutOut() {
        FootLights x = Due.townOf(FIVE);
        due.is("put out", x.quench(0), 5);
        due.is("no oil", x.place(0, 0), 0);
        due.is("again", x.quench(0), STATE);
        due.is("a dark one", x.quench(1), STATE);
        due.is("place 4", x.quench(4), BAD);
        due.is("place -1", x.quench(-1), BAD);
        due.is("one act", x.count(8), 1);
    }

    private static void playersAreMoved() {
        FootLights x = Due.townOf(FIVE);
        due.is("moved", x.move(0, 3), 1);
        due.is("it is there", x.move(0, 3), STATE);
        due.is("there", x.player(0, 0), 3);
        due.is("player 5", x.move(5, 0), BAD);
        due.is("player -1", x.move(-1, 0), BAD);
        due.is("place 4", x.move(0, 4), BAD);
        due.is("place -1", x.move(0, -1), BAD);
        x.evenings(1);
        due.is("one who has crossed", x.move(3, 0), STATE);
        due.is("BAD ahead of STATE", x.move(3, 4), BAD);
        due.is("two acts", x.count(8), 2);
    }

    private static void playersAreTurned() {
        FootLights x = Due.townOf(FIVE);
        due.is("turned", x.turn(3), 0);
        due.is("turned again", x.turn(3), 1);
        due.is("a farmer has a way", x.turn(0), 1);
        due.is("it is seen", x.player(0, 1), 1);
        due.is("player 5", x.turn(5), BAD);
        due.is("player -1", x.turn(-1), BAD);
        x.evenings(1);
        due.is("one who has crossed", x.turn(3), STATE);
        due.is("four acts", x.count(8), 4);
    }

    private static void actsAreUndone() {
        FootLights x = Due.townOf(FIVE);
        due.is("none", x.undo(), STATE);
        x.pour(1, 2);
        x.quench(0);
        x.move(0, 2);
        x.turn(4);
        x.evenings(2);
        due.is("an evening", x.undo(), 5);
        due.is("evening 1", x.count(3), 1);
        due.is("the cart has crossed", x.player(3, 2), 1);
        due.is("the first evening", x.undo(), 4);
        due.is("the cart is back", x.player(3, 0), 3);
        due.is("it sits no more", x.count(6), 2);
        due.is("no claps", x.count(4), 0);
        due.is("turned", x.player(4, 1), 1);
        due.is("the turn", x.undo(), 3);
        due.is("as it was", x.player(4, 1), 0);
        due.is("the move", x.undo(), 2);
        due.is("where it was", x.player(0, 0), 1);
        due.is("the flame", x.undo(), 1);
        due.is("it burns", x.place(0, 0), 5);
        due.is("the oil", x.undo(), 0);
        due.is("none is there", x.place(1, 0), 0);
        due.is("no more", x.undo(), STATE);
        for (int i = 0; i < 24; i++) {
            x.turn(0);
        }
        x.evenings(1);
        x.evenings(2);
        due.is("24 are kept", x.count(8), 24);
        for (int left = 23; left >= 0; left--) {
            due.is("back to " + left, x.undo(), left);
        }
        due.is("the oldest three are forgotten", x.undo(), STATE);
        due.is("so it stays turned", x.player(0, 1), 1);
        due.is("evening 0", x.count(3), 0);
    }

    private static void playersAndPlacesAreSeen() {
        FootLights x = Due.townOf(FIVE);
        int[] wouldGet = {0, 2, 1, 0, 0};
        for (int i = 0; i < 5; i++) {
            due.is("claps for " + i, x.player(i, 3), wouldGet[i]);
            due.is("on the stage: " + i, x.player(i, 2), 0);
        }
        due.is("two at 3", x.place(3, 3), 0b11000);
        due.is("one at 1", x.place(1, 3), 0b00001);
        due.is("1 is dark", x.place(1, 1), 0);
        due.is("3 is lit", x.place(3, 1), 1);
        x.evenings(1);
        due.is("nowhere", x.player(3, 0), NONE);
        due.is("its way", x.player(3, 1), 1);
        due.is("crossed", x.player(3, 2), 1);
        due.is("no claps", x.player(3, 3), 0);
        due.is("the child alone at 3", x.place(3, 3), 0b00100);
        due.is("a sitter at 3", x.place(3, 2), 1);
        due.is("what 4 of a player", x.player(0, 4), BAD);
        due.is("what -1 of a player", x.player(0, -1), BAD);
        due.is("player 5", x.player(5, 0), BAD);
        due.is("player -1", x.player(-1, 0), BAD);
        due.is("what 4 of a place", x.place(0, 4), BAD);
        due.is("what -1 of a place", x.place(0, -1), BAD);
        due.is("place 4", x.place(4, 0), BAD);
        due.is("place -1", x.place(-1, 0), BAD);
    }
}
