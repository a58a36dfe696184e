/** Promises 32 to 37: kinds, asks and their trace, counts, status. */
public final class AskedTest {
    private static final String ONE_OF_EACH = "t1;f9;f9;f9;f9;z0;a1,1;l2,0;c3,1;r1,1;w2,0;";
    private static final int NONE = FootLights.NONE, BAD = FootLights.BAD, KIND = -1000013;
    private static final Due due = new Due("AskedTest");

    public static void main(String[] args) {
        kindsAreTold();
        playersAreTakenAs();
        sizesAndMarks();
        asksOfThoseWhoHaveCrossed();
        theTraceStaysAndIsEmptied();
        countsAreTold();
        statusOfAs();
        due.close();
    }

    private static void kindsAreTold() {
        FootLights x = Due.townOf(ONE_OF_EACH);
        for (int i = 0; i < 5; i++) {
            due.is("kind " + i, x.kind(i), i + 1);
        }
        due.is("player 5", x.kind(5), BAD);
        due.is("player -1", x.kind(-1), BAD);
        due.is("no town", new FootLights().kind(0), BAD);
    }

    private static void playersAreTakenAs() {
        FootLights x = Due.townOf(ONE_OF_EACH);
        boolean[][] is = {
            {true, true, false, false, false, false},
            {true, true, true, false, false, false},
            {true, true, false, true, false, false},
            {true, false, false, false, true, false},
            {true, false, false, false, true, true},
        };
        for (int i = 0; i < 5; i++) {
            for (int kind = 0; kind < 6; kind++) {
                due.is(i + " as " + kind, x.as(i, kind), is[i][kind] ? i : KIND);
                due.is(i + " as " + kind + " status", x.status(), is[i][kind] ? 0 : 3);
            }
            due.is("it is what it was", x.kind(i), i + 1);
        }
        due.is("kind 6", x.as(0, 6), BAD);
        due.is("kind -1", x.as(0, -1), BAD);
        due.is("player 5", x.as(5, 0), BAD);
        due.is("player -1", x.as(-1, 0), BAD);
    }

    private static void ask(FootLights x, int player, int what, int answer, int... trace) {
        String told = "ask " + player + " " + what;
        due.is(told, x.ask(player, what), answer);
        for (int i = 0; i < trace.length; i++) {
            due.is(told + " trace " + i, x.trace(i), trace[i]);
        }
        due.is(told + " trace ends", x.trace(trace.length), NONE);
    }

    private static void sizesAndMarks() {
        FootLights x = Due.townOf(ONE_OF_EACH);
        ask(x, 0, 0, 2, 11, 10, 21, 20);
        ask(x, 0, 1, 1, 21, 20);
        ask(x, 1, 0, -6, 12, 11, 10, 24, 21, 20);
        ask(x, 1, 1, 6, 24, 21, 20);
        ask(x, 2, 0, -994, 11, 10, 22, 21, 20);
        ask(x, 2, 1, -995, 22, 21, 20);
        ask(x, 3, 0, -99, 13, 10);
        ask(x, 3, 1, 102, 23, 20, 13, 10);
        ask(x, 4, 0, -200, 14, 13, 10);
        ask(x, 4, 1, 204, 23, 20, 14, 13, 10);
        x.turn(4);
        ask(x, 4, 0, -198, 14, 13, 10);
        x.move(0, 3);
        ask(x, 0, 1, 3, 21, 20);
    }

    private static void asksOfThoseWhoHaveCrossed() {
        FootLights x = Due.townOf("t1;f9;f9;f9;f0;a0,0;l3,1;r0,0;");
        x.evenings(1);
        due.is("both have crossed", x.count(5), 2);
        ask(x, 1, 1, 8, 24, 21, 20);
        ask(x, 1, 0, -9, 12, 11, 10, 24, 21, 20);
        ask(x, 2, 1, 102, 23, 20, 13, 10);
    }

    private static void theTraceStaysAndIsEmptied() {
        FootLights x = Due.townOf(ONE_OF_EACH);
        due.is("none yet", x.trace(0), NONE);
        ask(x, 1, 0, -6, 12, 11, 10, 24, 21, 20);
        ask(x, 0, 1, 1, 21, 20);
        due.is("what 2", x.ask(0, 2), BAD);
        due.is("what -1", x.ask(0, -1), BAD);
        due.is("player 5", x.ask(5, 0), BAD);
        due.is("player -1", x.ask(-1, 0), BAD);
        due.is("a refusal leaves it", x.trace(1), 20);
        x.evenings(1);
        due.is("an evening leaves it", x.trace(0), 21);
        due.is("number -1", x.trace(-1), NONE);
        due.is("number 16", x.trace(16), NONE);
        due.is("the last of ints", x.trace(Integer.MAX_VALUE), NONE);
    }

    private static void countsAreTold() {
        FootLights x = Due.townOf(ONE_OF_EACH);
        x.row(3, 1, 2);
        x.row(4, 0, 0);
        x.evenings(3);
        x.turn(0);
        x.feed('t');
        int[] counts = {2, 4, 5, 3, x.later(0, 1), 1, 2, x.later(0, 0), 4, 1};
        for (int what = 0; what < counts.length; what++) {
            due.is("count " + what, x.count(what), counts[what]);
        }
        due.is("count 10", x.count(10), BAD);
        due.is("count -1", x.count(-1), BAD);
    }

    private static void statusOfAs() {
        FootLights x = Due.townOf(ONE_OF_EACH);
        x.as(0, 5);
        due.is("KIND", x.status(), 3);
        x.as(0, 6);
        x.kind(0);
        x.ask(0, 0);
        due.is("KIND yet", x.status(), 3);
        x.as(0, 0);
        due.is("none", x.status(), 0);
        x.as(0, 5);
        x.row(0, 0, 1);
        due.is("none by a row", x.status(), 0);
    }
}
