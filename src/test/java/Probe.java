import java.util.LinkedHashMap;
import java.util.Map;

/**
 * All that can be seen of an object, by calls that may spoil it: two objects that answer alike here are
 * alike. As many calls are made as there is room for, what matters most at first.
 */
final class Probe {
    private static final String ALL_LIT = "t1;f9;f9;f9;f9;f9;f9;f9;f9;a0,0;";
    private static final int MOST_ACTS = 24;

    private final FootLights x;
    private final Map<String, Integer> seen = new LinkedHashMap<>();
    private int room;

    private Probe(FootLights x, int room) {
        this.x = x;
        this.room = room;
    }

    static Map<String, Integer> of(FootLights x, int room) {
        Probe probe = new Probe(x, room);
        probe.countsAreSeen();
        probe.theTownIsSeen();
        probe.theTraceIsSeen();
        probe.actsAreSeen();
        probe.imagesAreSeen();
        probe.theTapeIsSeen();
        probe.rowsAreSeen();
        return probe.seen;
    }

    private int see(String name, int... values) {
        if (room <= 0) {
            return 0;
        }
        room--;
        int answer = Face.call(x, name, values);
        seen.put(seen.size() + " " + Face.told(name, values), answer);
        return answer;
    }

    private void countsAreSeen() {
        see("status");
        see("fault");
        for (int what = 0; what <= 9; what++) {
            see("count", what);
        }
    }

    private void theTownIsSeen() {
        int players = see("count", 2);
        int places = see("count", 1);
        for (int player = 0; player < players; player++) {
            see("kind", player);
            for (int what = 0; what < 3; what++) {
                see("player", player, what);
            }
        }
        for (int place = 0; place < places; place++) {
            see("place", place, 0);
            see("place", place, 2);
        }
        // BURN shows in what comes of it alone.
        see("later", 1, 0);
        see("later", 60, 1);
        see("drawn", 60, 7, 0);
    }

    private void theTraceIsSeen() {
        for (int i = 0; i < 7; i++) {
            see("trace", i);
        }
    }

    private void actsAreSeen() {
        for (int i = 0; i <= MOST_ACTS; i++) {
            if (see("undo") < 0) {
                return;
            }
            see("count", 3);
            see("count", 4);
            see("drawn", 9, 7, 0);
        }
    }

    private void imagesAreSeen() {
        for (int k = 0; k < 2; k++) {
            if (see("restore", k) == 1) {
                see("count", 3);
                see("count", 4);
                theTownIsSeen();
            }
        }
    }

    private void theTapeIsSeen() {
        see("town");
        see("fault");
        theTownIsSeen();
    }

    /** A farmer in the light stays, so that the place where it may be tells an item from 0 to 7. */
    private void rowsAreSeen() {
        for (int i = 0; i < ALL_LIT.length(); i++) {
            see("feed", ALL_LIT.charAt(i));
        }
        see("town");
        for (int row = 0; row < 8; row++) {
            if (see("fits", 0, row, 0, 1, 1) != -1000011) {
                for (int i = 1; i < 5; i++) {
                    see("fits", 0, row, i, 1, 1);
                }
                see("set", row, 0, 70000);
                see("drop", row);
            }
        }
    }
}
