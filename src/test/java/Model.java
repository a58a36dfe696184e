import java.lang.reflect.Array;
import java.math.BigInteger;
import java.util.ArrayDeque;
import java.util.ArrayList;
import java.util.Deque;
import java.util.List;
import java.util.function.Predicate;

/**
 * The document once more, in another manner: objects for players, true Java arrays for rows, whole
 * worlds that are copied, nothing left out for speed. RandomRunsTest holds FootLights against it.
 */
public final class Model {
    static final int NONE = -1000000, BAD = -1000001, STATE = -1000002, FULL = -1000003;

    /** What is asked of every player, with the bodies that are lent to all. */
    interface Asked {
        Actor self();

        List<Integer> trail();

        default int size() {
            trail().add(10);
            return self().way;
        }

        default int mark() {
            trail().add(20);
            return self().number;
        }
    }

    abstract static class Actor implements Asked, Cloneable {
        int number, place, way;
        boolean crossed;
        List<Integer> trail = new ArrayList<>();

        public Actor self() {
            return this;
        }

        public List<Integer> trail() {
            return trail;
        }

        abstract void go(World w, boolean[] lit);

        int lentSize() {
            return Asked.super.size();
        }

        int lentMark() {
            return Asked.super.mark();
        }

        Actor twin() {
            try {
                return (Actor) super.clone();
            } catch (CloneNotSupportedException e) {
                throw new IllegalStateException(e);
            }
        }

        void cross(World w) {
            crossed = true;
            w.newSitters.add(place);
        }

        static int nearest(int from, boolean[] among) {
            int best = -1;
            for (int p = 0; p < among.length; p++) {
                if (among[p] && (best < 0 || Math.abs(p - from) < Math.abs(best - from))) {
                    best = p;
                }
            }
            return best;
        }
    }

    static class Farmer extends Actor {
        void go(World w, boolean[] lit) {
            if (!lit[place]) {
                int goal = nearest(place, lit);
                if (goal >= 0) {
                    place += Integer.signum(goal - place);
                }
            }
        }

        public int size() {
            trail.add(11);
            int lent = lentSize();
            return lent + mark();
        }

        public int mark() {
            trail.add(21);
            int lent = lentMark();
            return lent + place;
        }
    }

    static class Lad extends Farmer {
        void go(World w, boolean[] lit) {
            if (!lit[place]) {
                cross(w);
                return;
            }
            boolean[] dark = new boolean[lit.length];
            for (int i = 0; i < lit.length; i++) {
                dark[i] = !lit[i];
            }
            int goal = nearest(place, dark);
            if (goal >= 0) {
                place += Integer.signum(goal - place);
            }
        }

        public int size() {
            trail.add(12);
            return 0 - super.size();
        }

        public int mark() {
            trail.add(24);
            return super.mark() * 2;
        }
    }

    static class Child extends Farmer {
        void go(World w, boolean[] lit) {
            int to = place + (way == 1 ? 1 : -1);
            if (to < 0 || to >= lit.length || !lit[to]) {
                way = way == 1 ? 0 : 1;
            } else {
                place = to;
            }
        }

        public int mark() {
            trail.add(22);
            return super.mark() - 1000;
        }
    }

    static class Cart extends Actor {
        void go(World w, boolean[] lit) {
            int to = place + (way == 1 ? 1 : -1);
            if (to < 0 || to >= lit.length) {
                cross(w);
            } else {
                place = to;
            }
        }

        public int size() {
            trail.add(13);
            return lentSize() - 100;
        }

        public int mark() {
            trail.add(23);
            int lent = lentMark();
            return lent - size();
        }
    }

    static class Widow extends Cart {
        void go(World w, boolean[] lit) {
            if (w.evening % 2 != 1) {
                super.go(w, lit);
            }
        }

        public int size() {
            trail.add(14);
            return 2 * super.size();
        }
    }

    static final class World {
        int burn, evening, claps;
        List<Integer> oil = new ArrayList<>();
        List<Integer> sitters = new ArrayList<>();
        List<Integer> newSitters = new ArrayList<>();
        List<Integer> clapsByEvening = new ArrayList<>();
        List<Actor> actors = new ArrayList<>();

        World twin() {
            World w = new World();
            w.burn = burn;
            w.evening = evening;
            w.claps = claps;
            w.oil.addAll(oil);
            w.sitters.addAll(sitters);
            for (Actor a : actors) {
                w.actors.add(a.twin());
            }
            return w;
        }

        boolean[] lit() {
            boolean[] lit = new boolean[oil.size()];
            for (int i = 0; i < lit.length; i++) {
                lit[i] = oil.get(i) > 0;
            }
            return lit;
        }

        int litBits() {
            int bits = 0;
            boolean[] lit = lit();
            for (int i = 0; i < lit.length; i++) {
                bits += lit[i] ? 1 << i : 0;
            }
            return bits;
        }

        int near(int place) {
            int n = 0;
            for (int s : sitters) {
                n += Math.abs(s - place) <= 1 ? 1 : 0;
            }
            return n;
        }

        World evening() {
            boolean[] lit = lit();
            for (Actor a : actors) {
                if (!a.crossed) {
                    a.go(this, lit);
                }
            }
            int now = 0;
            int[] less = new int[oil.size()];
            for (Actor a : actors) {
                if (!a.crossed) {
                    now += lit[a.place] ? near(a.place) : 0;
                    less[a.place]++;
                }
            }
            clapsByEvening.add(now);
            claps = Math.min(999999, claps + now);
            for (int p = 0; p < lit.length; p++) {
                if (lit[p]) {
                    oil.set(p, Math.max(0, oil.get(p) - burn - less[p]));
                }
            }
            sitters.addAll(newSitters);
            newSitters.clear();
            evening++;
            return this;
        }

        World evenings(int n) {
            for (int i = 0; i < n; i++) {
                evening();
            }
            return this;
        }

        World pour(int place, int n) {
            oil.set(place, Math.min(20, oil.get(place) + n));
            return this;
        }

        int crossed() {
            return (int) actors.stream().filter(a -> a.crossed).count();
        }
    }

    private final Object[] rows = new Object[8];
    private final StringBuilder tape = new StringBuilder();
    private final World[] images = new World[2];
    private final Deque<World> past = new ArrayDeque<>();
    private List<Integer> trail = new ArrayList<>();
    private World w;
    private int status, fault;

    private static boolean no(int n, int least, int most) {
        return n < least || n > most;
    }

    private boolean noPlayer(int player) {
        return w == null || no(player, 0, w.actors.size() - 1);
    }

    private boolean noPlace(int place) {
        return w == null || no(place, 0, w.oil.size() - 1);
    }

    private int found(int k) {
        status = k;
        return -1000010 - k;
    }

    private int fine(int answer) {
        status = 0;
        return answer;
    }

    public int row(int row, int lane, int n) {
        if (no(row, 0, 7) || no(lane, 0, 2) || n > 40) {
            return BAD;
        }
        try {
            rows[row] = lane == 0 ? new byte[n] : lane == 1 ? (Object) new short[n] : new int[n];
        } catch (NegativeArraySizeException e) {
            return found(4);
        }
        return fine(n);
    }

    public int set(int row, int i, int v) {
        if (no(row, 0, 7)) {
            return BAD;
        }
        try {
            if (rows[row] instanceof byte[] b) {
                return fine(b[i] = (byte) v);
            }
            if (rows[row] instanceof short[] s) {
                return fine(s[i] = (short) v);
            }
            return fine(((int[]) rows[row])[i] = v);
        } catch (NullPointerException e) {
            return found(1);
        } catch (ArrayIndexOutOfBoundsException e) {
            return found(2);
        }
    }

    public int copy(int a, int i, int b, int j, int n) {
        if (no(a, 0, 7) || no(b, 0, 7)) {
            return BAD;
        }
        try {
            System.arraycopy(rows[a], i, rows[b], j, n);
            return fine(n);
        } catch (NullPointerException e) {
            return found(1);
        } catch (ArrayStoreException e) {
            return found(5);
        } catch (ArrayIndexOutOfBoundsException e) {
            return found(2);
        }
    }

    public int drop(int row) {
        if (no(row, 0, 7)) {
            return BAD;
        }
        if (rows[row] == null) {
            return found(1);
        }
        int had = Array.getLength(rows[row]);
        rows[row] = null;
        return fine(had);
    }

    public int feed(int letter) {
        if (no(letter, 0, 255)) {
            return BAD;
        }
        if (tape.length() == 90) {
            return FULL;
        }
        tape.append((char) letter);
        return tape.length();
    }

    /** A token: L a letter, N a number, S a sign, X none, E the end. */
    record Token(char type, int at, String text) {
    }

    private static List<Token> tokens(String text) {
        List<Token> tokens = new ArrayList<>();
        for (int i = 0; i < text.length();) {
            char c = text.charAt(i);
            int j = i + 1;
            char type = 'X';
            if (c >= 'a' && c <= 'z') {
                type = 'L';
            } else if (c == ',' || c == ';') {
                type = 'S';
            } else if (c >= '0' && c <= '9') {
                while (j < text.length() && text.charAt(j) >= '0' && text.charAt(j) <= '9') {
                    j++;
                }
                type = j - i <= 2 ? 'N' : 'X';
            }
            tokens.add(new Token(type, i, text.substring(i, j)));
            i = j;
        }
        tokens.add(new Token('E', text.length(), ""));
        return tokens;
    }

    public int town() {
        String text = tape.toString();
        tape.setLength(0);
        World made = new World();
        // What is due next within a clause: N number, comma, semicolon; empty between clauses.
        String due = "";
        char clause = ' ';
        char phase = ' ';
        int toldSitters = 0;
        List<Integer> numbers = new ArrayList<>();
        for (Token t : tokens(text)) {
            int k = 0;
            if (due.isEmpty()) {
                boolean enough = made.oil.size() >= 4;
                if (t.type == 'E' && enough) {
                    break;
                }
                char letter = t.type == 'L' ? t.text.charAt(0) : ' ';
                boolean sort = "alcrw".indexOf(letter) >= 0;
                boolean stands = phase == ' ' ? letter == 't'
                        : letter == 'f' ? phase == 't' || phase == 'f'
                        : letter == 'z' ? enough && (phase == 'f' || phase == 'z')
                        : sort && enough;
                k = !stands ? 1
                        : letter == 'f' && made.oil.size() == 8 || letter == 'z' && toldSitters == 5
                        || sort && made.actors.size() == 6 ? 3 : 0;
                clause = letter;
                phase = sort ? 'p' : letter;
                due = sort ? "N,N;" : "N;";
                numbers.clear();
            } else {
                char want = due.charAt(0);
                if (want == 'N') {
                    k = t.type != 'N' ? 1 : 0;
                    if (k == 0) {
                        int n = Integer.parseInt(t.text);
                        int least = clause == 't' ? 1 : 0;
                        int most = clause == 't' ? 3 : clause == 'f' ? 20
                                : numbers.size() == 1 ? 1 : made.oil.size() - 1;
                        k = no(n, least, most) ? 2 : 0;
                        numbers.add(n);
                    }
                } else {
                    k = t.text.equals("" + want) ? 0 : 1;
                }
                due = due.substring(1);
                if (k == 0 && due.isEmpty()) {
                    toldSitters += clause == 'z' ? 1 : 0;
                    tell(made, clause, numbers);
                }
            }
            if (k != 0) {
                fault = k;
                return -1000100 - t.at;
            }
        }
        w = made;
        past.clear();
        return w.oil.size();
    }

    private static void tell(World made, char clause, List<Integer> numbers) {
        int n = numbers.get(0);
        switch (clause) {
            case 't' -> made.burn = n;
            case 'f' -> made.oil.add(n);
            case 'z' -> made.sitters.add(n);
            default -> {
                Actor a = make("alcrw".indexOf(clause) + 1);
                a.number = made.actors.size();
                a.place = n;
                a.way = numbers.get(1);
                made.actors.add(a);
            }
        }
    }

    private static Actor make(int kind) {
        return switch (kind) {
            case 1 -> new Farmer();
            case 2 -> new Lad();
            case 3 -> new Child();
            case 4 -> new Cart();
            default -> new Widow();
        };
    }

    public int fault() {
        return fault;
    }

    private void act() {
        past.addLast(w.twin());
        if (past.size() > 24) {
            past.removeFirst();
        }
    }

    public int evenings(int n) {
        if (w == null) {
            return STATE;
        }
        if (no(n, 1, 24)) {
            return BAD;
        }
        if (w.evening + n > 9999) {
            return FULL;
        }
        for (int i = 0; i < n; i++) {
            act();
            w.evening();
        }
        return w.litBits();
    }

    public int pour(int place, int n) {
        if (noPlace(place) || no(n, 1, 20)) {
            return BAD;
        }
        act();
        return w.pour(place, n).oil.get(place);
    }

    public int quench(int place) {
        if (noPlace(place)) {
            return BAD;
        }
        if (w.oil.get(place) == 0) {
            return STATE;
        }
        act();
        return w.oil.set(place, 0);
    }

    public int move(int player, int place) {
        if (noPlayer(player) || noPlace(place)) {
            return BAD;
        }
        Actor a = w.actors.get(player);
        if (a.crossed || a.place == place) {
            return STATE;
        }
        act();
        int was = a.place;
        a.place = place;
        return was;
    }

    public int turn(int player) {
        if (noPlayer(player)) {
            return BAD;
        }
        Actor a = w.actors.get(player);
        if (a.crossed) {
            return STATE;
        }
        act();
        a.way ^= 1;
        return a.way;
    }

    public int undo() {
        if (past.isEmpty()) {
            return STATE;
        }
        w = past.removeLast();
        return past.size();
    }

    public int player(int player, int what) {
        if (noPlayer(player) || no(what, 0, 3)) {
            return BAD;
        }
        Actor a = w.actors.get(player);
        return switch (what) {
            case 0 -> a.crossed ? NONE : a.place;
            case 1 -> a.way;
            case 2 -> a.crossed ? 1 : 0;
            default -> a.crossed || !w.lit()[a.place] ? 0 : w.near(a.place);
        };
    }

    public int place(int place, int what) {
        if (noPlace(place) || no(what, 0, 3)) {
            return BAD;
        }
        int bits = 0;
        for (Actor a : w.actors) {
            bits |= !a.crossed && a.place == place ? 1 << a.number : 0;
        }
        return switch (what) {
            case 0 -> w.oil.get(place);
            case 1 -> w.lit()[place] ? 1 : 0;
            case 2 -> (int) w.sitters.stream().filter(s -> s == place).count();
            default -> bits;
        };
    }

    public int ahead(int player, int d) {
        if (noPlayer(player) || no(d, 0, 60)) {
            return BAD;
        }
        Actor a = w.twin().evenings(d).actors.get(player);
        return a.crossed ? NONE : a.place;
    }

    public int oil(int place, int d) {
        return noPlace(place) || no(d, 0, 60) ? BAD : w.twin().evenings(d).oil.get(place);
    }

    public int later(int d, int what) {
        if (w == null) {
            return STATE;
        }
        if (no(d, 0, 60) || no(what, 0, 1)) {
            return BAD;
        }
        World then = w.twin().evenings(d);
        return what == 0 ? then.litBits() : then.claps;
    }

    private int first(Predicate<World> so) {
        World then = w.twin();
        for (int d = 0; d <= 60; d++) {
            if (so.test(then)) {
                return d;
            }
            then.evening();
        }
        return NONE;
    }

    public int crossing(int player) {
        return noPlayer(player) ? BAD : first(then -> then.actors.get(player).crossed);
    }

    public int out(int place) {
        return noPlace(place) ? BAD : first(then -> then.oil.get(place) == 0);
    }

    public int gap(int what) {
        if (w == null) {
            return STATE;
        }
        if (no(what, 0, 1)) {
            return BAD;
        }
        StringBuilder edge = new StringBuilder();
        for (boolean lit : w.lit()) {
            edge.append(lit ? 'o' : '-');
        }
        for (int n = edge.length(); n > 0; n--) {
            int at = edge.indexOf("-".repeat(n));
            if (at >= 0) {
                return what == 0 ? at : n;
            }
        }
        return NONE;
    }

    public int hold(int player, int place, int n) {
        if (noPlayer(player) || noPlace(place) || no(n, 1, 30)) {
            return BAD;
        }
        for (int v = 0; v <= 20; v++) {
            if (!w.twin().pour(place, v).evenings(n).actors.get(player).crossed) {
                return v;
            }
        }
        return NONE;
    }

    public int fill(int n, int what) {
        if (w == null) {
            return STATE;
        }
        if (no(n, 1, 30) || no(what, 0, 1)) {
            return BAD;
        }
        int all = 1 << w.oil.size();
        for (int number = 0; number <= w.oil.size(); number++) {
            for (int bits = 0; bits < all; bits++) {
                if (Integer.bitCount(bits) != number) {
                    continue;
                }
                World then = w.twin();
                for (int p = 0; p < w.oil.size(); p++) {
                    if ((bits & 1 << p) != 0) {
                        then.oil.set(p, 20);
                    }
                }
                if (then.evenings(n).litBits() == all - 1) {
                    return what == 0 ? number : bits;
                }
            }
        }
        return NONE;
    }

    public int lure(int n, int what) {
        if (w == null) {
            return STATE;
        }
        if (no(n, 1, 30) || no(what, 0, 1)) {
            return BAD;
        }
        int[] crossed = new int[w.oil.size()];
        int best = 0;
        for (int p = 0; p < crossed.length; p++) {
            World then = w.twin();
            then.oil.set(p, 0);
            crossed[p] = then.evenings(n).crossed();
            best = crossed[p] > crossed[best] ? p : best;
        }
        return what == 0 ? best : crossed[best];
    }

    private static Actor recast(Actor a, int kind) {
        Actor b = make(kind);
        b.number = a.number;
        b.place = a.place;
        b.way = a.way;
        return b;
    }

    public int fits(int player, int row, int i, int n, int what) {
        if (noPlayer(player) || no(row, 0, 7) || no(n, 1, 12) || no(what, 0, 2)) {
            return BAD;
        }
        if (w.actors.get(player).crossed) {
            return STATE;
        }
        if (rows[row] == null) {
            return found(1);
        }
        if (i < 0 || (long) i + n > Array.getLength(rows[row])) {
            return found(2);
        }
        int bits = 0;
        for (int guess = what == 0 ? 1 : 0; guess < (what == 0 ? 6 : what == 1 ? w.oil.size() : 2); guess++) {
            World then = w.twin();
            Actor a = then.actors.get(player);
            if (what == 0) {
                a = recast(a, guess);
                then.actors.set(player, a);
            } else if (what == 1) {
                a.place = guess;
            } else {
                a.way = guess;
            }
            boolean same = true;
            for (int k = 0; k < n; k++) {
                then.evening();
                same &= Array.getInt(rows[row], i + k) == (a.crossed ? 99 : a.place);
            }
            bits |= same ? 1 << guess : 0;
        }
        return fine(bits);
    }

    public int sits(int row, int i, int n) {
        if (w == null) {
            return STATE;
        }
        if (no(row, 0, 7) || no(n, 1, 12)) {
            return BAD;
        }
        if (rows[row] == null) {
            return found(1);
        }
        if (i < 0 || (long) i + n > Array.getLength(rows[row])) {
            return found(2);
        }
        List<Integer> told = new ArrayList<>();
        for (int k = 0; k < n; k++) {
            told.add(Array.getInt(rows[row], i + k));
        }
        int bits = 0;
        for (int p = 0; p < w.oil.size(); p++) {
            World then = w.twin();
            then.sitters.add(p);
            bits |= then.evenings(n).clapsByEvening.equals(told) ? 1 << p : 0;
        }
        return fine(bits);
    }

    public int wind(int player, int n, int c, int what) {
        if (noPlayer(player) || no(n, 0, 30) || no(c, 0, 10) || no(what, 0, 1)) {
            return BAD;
        }
        long above = windFrom(w.twin(), 0, player, n, c);
        BigInteger a = BigInteger.valueOf(above);
        BigInteger b = BigInteger.TEN.pow(w.oil.size());
        BigInteger g = a.gcd(b);
        return (what == 0 ? a : b).divide(g).intValueExact();
    }

    /** Place by place, in tenths each. */
    private static long windFrom(World then, int place, int player, int n, int c) {
        if (place == then.oil.size()) {
            return then.twin().evenings(n).actors.get(player).crossed ? 1 : 0;
        }
        if (then.oil.get(place) == 0) {
            return 10 * windFrom(then, place + 1, player, n, c);
        }
        World blown = then.twin();
        blown.oil.set(place, 0);
        return c * windFrom(blown, place + 1, player, n, c) + (10 - c) * windFrom(then, place + 1, player, n, c);
    }

    public int drawn(int n, int seed, int what) {
        if (w == null) {
            return STATE;
        }
        if (no(n, 0, 60) || no(seed, 1, 999999) || no(what, 0, 1)) {
            return BAD;
        }
        World then = w.twin();
        BigInteger x = BigInteger.valueOf(seed);
        for (int i = 0; i < n; i++) {
            x = x.multiply(BigInteger.valueOf(16807)).mod(BigInteger.valueOf(2147483647));
            int p = x.mod(BigInteger.valueOf(then.oil.size())).intValue();
            if (x.mod(BigInteger.valueOf(3)).signum() == 0) {
                then.oil.set(p, 0);
            } else {
                then.pour(p, x.mod(BigInteger.valueOf(8)).intValue());
            }
            then.evening();
        }
        return what == 0 ? then.clapsByEvening.stream().mapToInt(k -> k).sum() : then.crossed();
    }

    public int image(int k) {
        if (no(k, 0, 1)) {
            return BAD;
        }
        if (w == null) {
            return STATE;
        }
        images[k] = w.twin();
        return 1;
    }

    public int restore(int k) {
        if (no(k, 0, 1)) {
            return BAD;
        }
        if (images[k] == null) {
            return STATE;
        }
        w = images[k].twin();
        past.clear();
        return 1;
    }

    public int kind(int player) {
        if (noPlayer(player)) {
            return BAD;
        }
        Actor a = w.actors.get(player);
        return a instanceof Lad ? 2 : a instanceof Child ? 3 : a instanceof Farmer ? 1 : a instanceof Widow ? 5 : 4;
    }

    public int as(int player, int kind) {
        if (noPlayer(player) || no(kind, 0, 5)) {
            return BAD;
        }
        Class<?>[] kinds = {Actor.class, Farmer.class, Lad.class, Child.class, Cart.class, Widow.class};
        try {
            return fine(((Actor) kinds[kind].cast(w.actors.get(player))).number);
        } catch (ClassCastException e) {
            return found(3);
        }
    }

    public int ask(int player, int what) {
        if (noPlayer(player) || no(what, 0, 1)) {
            return BAD;
        }
        Actor a = w.actors.get(player);
        a.trail = new ArrayList<>();
        int answer = what == 0 ? a.size() : a.mark();
        trail = a.trail;
        return answer;
    }

    public int trace(int i) {
        return no(i, 0, Math.min(16, trail.size()) - 1) ? NONE : trail.get(i);
    }

    public int count(int what) {
        if (no(what, 0, 9)) {
            return BAD;
        }
        if (what == 0) {
            int n = 0;
            for (Object r : rows) {
                n += r != null ? 1 : 0;
            }
            return n;
        }
        if (what == 9) {
            return tape.length();
        }
        if (w == null) {
            return 0;
        }
        return switch (what) {
            case 1 -> w.oil.size();
            case 2 -> w.actors.size();
            case 3 -> w.evening;
            case 4 -> w.claps;
            case 5 -> w.crossed();
            case 6 -> w.sitters.size();
            case 7 -> w.litBits();
            default -> past.size();
        };
    }

    public int status() {
        return status;
    }
}
