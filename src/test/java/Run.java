import java.util.ArrayList;
import java.util.List;
import java.util.Map;

/**
 * A run of calls that is kept, so that it can be played again on new objects: one that a call is made on
 * at its end and one that it isn't; what the Probe sees of both tells what the call has changed.
 */
final class Run {
    private static final int MOST_CALLS = 512;
    private static final int AS_BEFORE = -1;
    private static final int LEAST_SEEN = 60;

    private record Call(String name, int[] values) {
    }

    private final Due due;
    private final String title;
    private final List<Call> calls = new ArrayList<>();
    private final FootLights x = new FootLights();
    private Map<String, Integer> seenNow;
    private int seenAt = -1;
    private int seenIn;

    Run(Due due, String title) {
        this.due = due;
        this.title = title;
    }

    /** A call that is kept, whatever it answers. */
    int does(String name, int... values) {
        if (calls.size() >= MOST_CALLS) {
            throw new IllegalStateException("more than 512 calls: " + title);
        }
        calls.add(new Call(name, values));
        return Face.call(x, name, values);
    }

    /** A call that is kept, with the answer that is due. */
    Run is(int want, String name, int... values) {
        due.is(title + ": " + Face.told(name, values), does(name, values), want);
        return this;
    }

    Run feed(String text) {
        for (int i = 0; i < text.length(); i++) {
            does("feed", text.charAt(i));
        }
        return this;
    }

    Run town(String text) {
        feed(text);
        due.holds(title + ": " + text + " is a town", does("town") >= 4);
        return this;
    }

    /** A call that is BAD, STATE or FULL: it changes nothing. */
    void refused(int want, String name, int... values) {
        due.holds(title + ": " + want + " is a refusal", want >= FootLights.FULL && want <= FootLights.BAD);
        changesNothing(want, AS_BEFORE, name, values);
    }

    /** A call that has a finding: it changes status() alone. */
    void finds(int number, String name, int... values) {
        changesNothing(-1000010 - number, number, name, values);
    }

    /** A call that only tells something. */
    void tells(int want, String name, int... values) {
        changesNothing(want, AS_BEFORE, name, values);
    }

    /** A call that only tells something by a row, or of a kind: it has no finding. */
    void tellsWithoutFinding(int want, String name, int... values) {
        changesNothing(want, 0, name, values);
    }

    /** A text that has a fault: all stays, but for the number of the fault (the tape is to be empty ahead). */
    void faults(int place, int number, String text) {
        String told = title + ": " + text;
        FootLights other = again();
        for (int i = 0; i < text.length(); i++) {
            Face.call(other, "feed", text.charAt(i));
        }
        due.is(told + " town()", Face.call(other, "town"), -1000100 - place);
        isAsBefore(told, other, text.length() + 1, Map.of("1 fault()", number));
    }

    private void changesNothing(int want, int status, String name, int[] values) {
        String told = title + ": " + Face.told(name, values);
        FootLights other = again();
        due.is(told, Face.call(other, name, values), want);
        isAsBefore(told, other, 1, status == AS_BEFORE ? Map.of() : Map.of("0 status()", status));
    }

    /** Another object, on which there were so many calls more, is seen as it was before, but as told. */
    private void isAsBefore(String told, FootLights other, int more, Map<String, Integer> butFor) {
        int room = MOST_CALLS - calls.size() - 1 - more;
        if (room < LEAST_SEEN) {
            throw new IllegalStateException("no room to see anything: " + title);
        }
        if (seenAt != calls.size() || seenIn != room) {
            seenNow = Probe.of(again(), room);
            seenAt = calls.size();
            seenIn = room;
        }
        Map<String, Integer> seenThen = Probe.of(other, room);
        for (Map.Entry<String, Integer> was : seenNow.entrySet()) {
            int wanted = butFor.getOrDefault(was.getKey(), was.getValue());
            int got = seenThen.getOrDefault(was.getKey(), Integer.MIN_VALUE);
            due.is(told + " then " + was.getKey(), got, wanted);
        }
        due.is(told + " then sees", seenThen.size(), seenNow.size());
    }

    /** The run once more; what is foretold at its end must matter to nothing that comes behind it. */
    private FootLights again() {
        FootLights other = new FootLights();
        for (Call call : calls) {
            Face.call(other, call.name, call.values);
        }
        Face.call(other, "later", 60, 1);
        return other;
    }
}
