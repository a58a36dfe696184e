import java.lang.reflect.Constructor;
import java.lang.reflect.Field;
import java.lang.reflect.InvocationTargetException;
import java.lang.reflect.Method;
import java.lang.reflect.Modifier;
import java.util.Set;
import java.util.TreeSet;

/** The public face, as the document writes it, and that no call throws, whatever its arguments. */
public final class FaceTest {
    private static final Due due = new Due("FaceTest");
    private static final String[] FACE = {
        "row 3", "set 3", "copy 5", "drop 1", "feed 1", "town 0", "fault 0", "evenings 1", "pour 2", "quench 1",
        "move 2", "turn 1", "undo 0", "player 2", "place 2", "ahead 2", "oil 2", "later 2", "crossing 1", "out 1",
        "gap 1", "hold 3", "fill 2", "lure 2", "fits 5", "sits 3", "wind 4", "drawn 3", "image 1", "restore 1",
        "kind 1", "as 2", "ask 2", "trace 1", "count 1", "status 0",
    };
    private static final int[] WILD = {Integer.MIN_VALUE, -1000000, -1, 0, 1, 3, 7, 8, 12, 30, 40, Integer.MAX_VALUE};

    public static void main(String[] args) throws Exception {
        theFaceIsAsWritten();
        nothingElseIsVisible();
        noCallThrows();
        due.close();
    }

    private static void theFaceIsAsWritten() throws Exception {
        due.is("NONE", FootLights.NONE, -1000000);
        due.is("BAD", FootLights.BAD, -1000001);
        due.is("STATE", FootLights.STATE, -1000002);
        due.is("FULL", FootLights.FULL, -1000003);
        due.holds("the class is public and final", FootLights.class.getModifiers() == (Modifier.PUBLIC | Modifier.FINAL));
        Set<String> want = new TreeSet<>(Set.of(FACE));
        Set<String> got = new TreeSet<>();
        for (Method m : FootLights.class.getDeclaredMethods()) {
            if (Modifier.isPublic(m.getModifiers())) {
                got.add(m.getName() + " " + m.getParameterCount());
                due.holds(m.getName() + " answers an int", m.getReturnType() == int.class);
                due.holds(m.getName() + " is not static", !Modifier.isStatic(m.getModifiers()));
            }
        }
        due.holds("the methods: " + got, got.equals(want));
    }

    private static void nothingElseIsVisible() {
        Set<String> names = new TreeSet<>();
        for (String method : FACE) {
            names.add(method.split(" ")[0]);
        }
        for (Method m : FootLights.class.getDeclaredMethods()) {
            boolean isPrivate = Modifier.isPrivate(m.getModifiers());
            due.holds(m.getName() + " is public or private", isPrivate || Modifier.isPublic(m.getModifiers()));
            due.holds(m.getName() + " bears its own name", !isPrivate || !names.contains(m.getName()));
        }
        for (Field f : FootLights.class.getDeclaredFields()) {
            boolean isConstant = Set.of("NONE", "BAD", "STATE", "FULL").contains(f.getName());
            due.holds(f.getName() + " is visible or not", isConstant == !Modifier.isPrivate(f.getModifiers()));
            due.holds(f.getName(), !Modifier.isStatic(f.getModifiers()) || Modifier.isFinal(f.getModifiers()));
        }
        Constructor<?>[] constructors = FootLights.class.getDeclaredConstructors();
        due.is("one constructor", constructors.length, 1);
        for (Class<?> inside : FootLights.class.getDeclaredClasses()) {
            due.holds(inside + " is static", Modifier.isStatic(inside.getModifiers()));
            due.holds(inside + " is not public", !Modifier.isPublic(inside.getModifiers()));
            for (Method m : inside.getDeclaredMethods()) {
                due.holds(m.getName() + " inside bears its own name", !names.contains(m.getName()));
            }
        }
    }

    private static void noCallThrows() throws Exception {
        for (int state = 0; state < 4; state++) {
            for (Method m : FootLights.class.getMethods()) {
                if (m.getDeclaringClass() == FootLights.class) {
                    sweep(m, state);
                }
            }
        }
    }

    private static FootLights inState(int state) {
        if (state == 0) {
            return new FootLights();
        }
        FootLights x = Due.townOf("t2;f20;f0;f20;f5;f7;f0;f19;f20;z0;z7;l0,0;a1,0;c2,1;r3,1;w7,1;l6,1;");
        x.row(0, 0, 40);
        x.row(1, 2, 40);
        if (state > 1) {
            x.evenings(3);
            x.image(0);
        }
        if (state > 2) {
            x.evenings(24);
        }
        return x;
    }

    private static void sweep(Method m, int state) throws Exception {
        int n = m.getParameterCount();
        int all = 1;
        for (int i = 0; i < n; i++) {
            all *= WILD.length;
        }
        FootLights x = inState(state);
        for (int k = 0; k < all; k++) {
            Object[] values = new Object[n];
            for (int i = 0, rest = k; i < n; i++, rest /= WILD.length) {
                values[i] = WILD[rest % WILD.length];
            }
            try {
                m.invoke(x, values);
            } catch (InvocationTargetException e) {
                due.holds(m.getName() + " in state " + state + " threw " + e.getCause(), false);
                return;
            }
        }
        due.holds(m.getName() + " throws nothing", true);
    }
}
