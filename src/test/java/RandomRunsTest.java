import java.lang.reflect.Method;
import java.util.Random;

/** Runs of calls, drawn by fixed seeds, on FootLights and on the Model: every answer has to be the same. */
public final class RandomRunsTest {
    private static final int RUNS = 1500;
    private static final int CALLS = 512;
    private static final String[] PARAMETERS = {
        "row row lane items", "set row item value", "copy row item row item items", "drop row",
        "feed letter", "town", "fault", "evenings few", "pour place oil", "quench place",
        "move player place", "turn player", "undo", "player player what", "place place what",
        "ahead player days", "oil place days", "later days what", "crossing player", "out place",
        "gap what", "hold player place plan", "fill plan what", "lure plan what",
        "fits player row item told what", "sits row item told", "wind player plan tenths what",
        "drawn days seed what", "image what", "restore what", "kind player", "as player kind",
        "ask player what", "trace item", "count count", "status",
    };

    private final Due due = new Due("RandomRunsTest");
    private Random random;
    private FootLights x;
    private Model model;
    private int run;
    private int calls;

    public static void main(String[] args) throws Exception {
        RandomRunsTest test = new RandomRunsTest();
        for (int run = 1; run <= RUNS; run++) {
            test.one(run);
        }
        test.due.close();
    }

    private void one(int seed) throws Exception {
        run = seed;
        random = new Random(seed);
        x = new FootLights();
        model = new Model();
        calls = 0;
        while (calls < CALLS - 130) {
            int turn = random.nextInt(60);
            if (turn < 2) {
                tellTown();
            } else if (turn < 6) {
                tellWhereItGoes();
            } else if (turn < 8) {
                tellClaps();
            } else {
                any();
            }
        }
    }

    private int call(String name, int... values) throws Exception {
        Class<?>[] types = new Class<?>[values.length];
        Object[] arguments = new Object[values.length];
        StringBuilder told = new StringBuilder("run " + run + ", call " + calls++ + ": " + name);
        for (int i = 0; i < values.length; i++) {
            types[i] = int.class;
            arguments[i] = values[i];
            told.append(' ').append(values[i]);
        }
        Method ours = FootLights.class.getMethod(name, types);
        Method theirs = Model.class.getMethod(name, types);
        int got = (int) ours.invoke(x, arguments);
        due.is(told.toString(), got, (int) theirs.invoke(model, arguments));
        return got;
    }

    private void any() throws Exception {
        String[] words = PARAMETERS[random.nextInt(PARAMETERS.length)].split(" ");
        int[] values = new int[words.length - 1];
        for (int i = 0; i < values.length; i++) {
            values[i] = value(words[i + 1]);
        }
        call(words[0], values);
    }

    private int value(String parameter) {
        if (random.nextInt(60) == 0) {
            int[] wild = {Integer.MIN_VALUE, Integer.MAX_VALUE, -1, 1 << 30, 41, 61, 31, 256, 1000000, 8};
            return wild[random.nextInt(wild.length)];
        }
        switch (parameter) {
            case "row": return random.nextInt(8);
            case "lane": return random.nextInt(3);
            case "items": return random.nextInt(44) - 2;
            case "item": return random.nextInt(16) - 1;
            case "value": return random.nextInt(4) == 0 ? random.nextInt() : random.nextInt(300) - 100;
            case "letter": return random.nextInt(257);
            case "few": return random.nextInt(5) == 0 ? random.nextInt(26) : 1 + random.nextInt(3);
            case "place": return random.nextInt(8);
            case "player": return random.nextInt(6);
            case "oil": return random.nextInt(22);
            case "what": return random.nextInt(16) == 0 ? random.nextInt(5) : random.nextInt(2);
            case "days": return random.nextInt(62);
            case "plan": return random.nextInt(4) > 0 ? random.nextInt(8) : random.nextInt(32);
            case "told": return random.nextInt(14);
            case "tenths": return random.nextInt(12) - 1 + random.nextInt(2);
            case "seed": return random.nextInt(1000002);
            case "kind": return random.nextInt(7);
            case "count": return random.nextInt(11);
            default: throw new IllegalStateException(parameter);
        }
    }

    private void tellTown() throws Exception {
        StringBuilder text = new StringBuilder("t" + (1 + random.nextInt(3)) + ";");
        int places = 4 + random.nextInt(5);
        for (int i = 0; i < places; i++) {
            text.append('f').append(random.nextInt(4) == 0 ? 0 : random.nextInt(21)).append(';');
        }
        for (int i = random.nextInt(6); i > 0; i--) {
            text.append('z').append(random.nextInt(places)).append(';');
        }
        for (int i = random.nextInt(7); i > 0; i--) {
            text.append("alcrw".charAt(random.nextInt(5))).append(random.nextInt(places));
            text.append(',').append(random.nextInt(2)).append(';');
        }
        for (int i = 0; i < text.length() && random.nextInt(300) > 0; i++) {
            call("feed", random.nextInt(1500) == 0 ? "tfzalcrw,;09x ".charAt(random.nextInt(14)) : text.charAt(i));
        }
        call("town");
        call("fault");
    }

    /** A row that tells truly where a player will be, so that something fits it. */
    private void tellWhereItGoes() throws Exception {
        int player = value("player");
        int n = 1 + random.nextInt(6);
        int row = value("row");
        call("row", row, value("lane"), n + 2);
        for (int i = 0; i < n; i++) {
            int where = call("ahead", player, i + 1);
            call("set", row, i + 1, where == FootLights.NONE ? 99 : where);
        }
        for (int what = 0; what < 3; what++) {
            call("fits", player, row, 1, n, what);
        }
        call("status");
    }

    /** A row that tells the claps that there would be with one sitter more, or as there are. */
    private void tellClaps() throws Exception {
        int n = 1 + random.nextInt(4);
        int row = value("row");
        call("row", row, value("lane"), n);
        for (int i = 0; i < n; i++) {
            call("set", row, i, call("later", i + 1, 1) - call("later", i, 1) + random.nextInt(2));
        }
        call("sits", row, 0, n);
        call("status");
    }
}
