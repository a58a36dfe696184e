/**
 * Towns with a trough of flames along their edge: who stays on the stage, who crosses, what is
 * clapped, and what of it can be foretold. Every call answers a number; see README.md.
 */
public final class FootLights {
    public static final int NONE = -1000000, BAD = -1000001, STATE = -1000002, FULL = -1000003;

    private static final int FINDINGS = -1000010;
    private static final int FOUND_NULL = 1;
    private static final int FOUND_PLACE = 2;
    private static final int FOUND_KIND = 3;
    private static final int FOUND_SIZE = 4;
    private static final int FOUND_STORE = 5;
    private static final int FAULTS = -1000100;

    private static final int ROWS = 8;
    private static final int MOST_ITEMS = 40;
    private static final int TAPE_BYTES = 90;
    private static final int LEAST_PLACES = 4;
    private static final int MOST_PLACES = 8;
    private static final int MOST_PLAYERS = 6;
    private static final int MOST_TOLD_SITTERS = 5;
    private static final int MOST_OIL = 20;
    private static final int PLENTY_OF_OIL = 1000;
    private static final int MOST_CLAPS = 999999;
    private static final int LAST_EVENING = 9999;
    private static final int MOST_ACTS = 24;
    private static final int IMAGES = 2;
    private static final int FORETOLD_EVENINGS = 60;
    private static final int PLANNED_EVENINGS = 30;
    private static final int TOLD_EVENINGS = 12;
    private static final int TOLD_AS_CROSSED = 99;
    private static final int MOST_SEED = 999999;
    private static final int TRACE_NUMBERS = 16;

    private static final int FARMER = 1;
    private static final int LAD = 2;
    private static final int CHILD = 3;
    private static final int CART = 4;
    private static final int WIDOW = 5;

    /** By kind, the bits of all the kinds that it is: a lad (2) is a farmer (1) and a player (0), too. */
    private static final int[] IS_ALSO = {0b000001, 0b000011, 0b000111, 0b001011, 0b010001, 0b110001};

    /** By kind, the body that begins when SIZE is asked: its own, else the nearest one's. */
    private static final int[] SIZE_BODIES = {10, 11, 12, 11, 13, 14};

    /** By kind, the body that begins when MARK is asked. */
    private static final int[] MARK_BODIES = {20, 21, 24, 22, 23, 23};

    /** No ask goes deeper than its bodies are many. */
    private static final int DEEPEST_BODY = 10;

    /** Far above what two numbers up to 100000000 need. */
    private static final int EUCLID_STEPS = 100;

    private final Row[] rows;
    private final Tape tape;
    private final Town town;
    private final Town foretold;
    private final Town[] images;
    private final Acts acts;
    private final int[] traced;
    private int tracedNumbers;
    private int finding;

    public FootLights() {
        rows = new Row[ROWS];
        for (int i = 0; i < ROWS; i++) {
            rows[i] = new Row();
        }
        tape = new Tape();
        town = new Town();
        foretold = new Town();
        images = new Town[IMAGES];
        for (int i = 0; i < IMAGES; i++) {
            images[i] = new Town();
        }
        acts = new Acts();
        traced = new int[TRACE_NUMBERS];
    }

    // ---- rows

    public int row(int row, int lane, int n) {
        if (!isRow(row) || lane < Row.BYTES || lane > Row.INTS || n > MOST_ITEMS) {
            return BAD;
        }
        if (n < 0) {
            return found(FOUND_SIZE);
        }
        rows[row].begin(lane, n);
        return foundNothing(n);
    }

    public int set(int row, int i, int v) {
        if (!isRow(row)) {
            return BAD;
        }
        Row of = rows[row];
        if (of.isMissing()) {
            return found(FOUND_NULL);
        }
        if (!of.hasItems(i, 1)) {
            return found(FOUND_PLACE);
        }
        of.items[i] = of.narrowed(v);
        return foundNothing(of.items[i]);
    }

    public int copy(int a, int i, int b, int j, int n) {
        if (!isRow(a) || !isRow(b)) {
            return BAD;
        }
        Row from = rows[a];
        Row to = rows[b];
        if (from.isMissing() || to.isMissing()) {
            return found(FOUND_NULL);
        }
        if (from.lane != to.lane) {
            return found(FOUND_STORE);
        }
        if (!from.hasItems(i, n) || !to.hasItems(j, n)) {
            return found(FOUND_PLACE);
        }
        System.arraycopy(from.items, i, to.items, j, n);
        return foundNothing(n);
    }

    public int drop(int row) {
        if (!isRow(row)) {
            return BAD;
        }
        Row of = rows[row];
        if (of.isMissing()) {
            return found(FOUND_NULL);
        }
        int had = of.length;
        of.end();
        return foundNothing(had);
    }

    // ---- towns, acts

    public int feed(int letter) {
        if (letter < 0 || letter > 255) {
            return BAD;
        }
        if (tape.isFull()) {
            return FULL;
        }
        return tape.add(letter);
    }

    public int town() {
        // What is foretold is made anew for each call, so its room serves for the draft, too.
        boolean isRead = tape.readInto(foretold);
        tape.clear();
        if (!isRead) {
            return FAULTS - tape.faultPlace;
        }
        town.become(foretold);
        acts.forget();
        return town.places;
    }

    public int fault() {
        return tape.faultNumber;
    }

    public int evenings(int n) {
        if (!town.stands()) {
            return STATE;
        }
        if (n < 1 || n > MOST_ACTS) {
            return BAD;
        }
        if (town.evening + n > LAST_EVENING) {
            return FULL;
        }
        for (int i = 0; i < n; i++) {
            acts.keep(town);
            town.passEvening();
        }
        return town.litPlaces();
    }

    public int pour(int place, int n) {
        if (!town.hasPlace(place) || n < 1 || n > MOST_OIL) {
            return BAD;
        }
        acts.keep(town);
        town.addOil(place, n);
        return town.oil[place];
    }

    public int quench(int place) {
        if (!town.hasPlace(place)) {
            return BAD;
        }
        int had = town.oil[place];
        if (had == 0) {
            return STATE;
        }
        acts.keep(town);
        town.oil[place] = 0;
        return had;
    }

    public int move(int player, int place) {
        if (!town.hasPlayer(player) || !town.hasPlace(place)) {
            return BAD;
        }
        int was = town.at[player];
        if (town.hasCrossed(player) || was == place) {
            return STATE;
        }
        acts.keep(town);
        town.at[player] = place;
        return was;
    }

    public int turn(int player) {
        if (!town.hasPlayer(player)) {
            return BAD;
        }
        if (town.hasCrossed(player)) {
            return STATE;
        }
        acts.keep(town);
        town.turnRound(player);
        return town.way[player];
    }

    public int undo() {
        if (acts.kept == 0) {
            return STATE;
        }
        acts.takeBack(town);
        return acts.kept;
    }

    public int player(int player, int what) {
        if (!town.hasPlayer(player)) {
            return BAD;
        }
        switch (what) {
            case 0:
                return town.placeOf(player);
            case 1:
                return town.way[player];
            case 2:
                return town.hasCrossed(player) ? 1 : 0;
            case 3:
                return town.clapsFor(player, town.litPlaces());
            default:
                return BAD;
        }
    }

    public int place(int place, int what) {
        if (!town.hasPlace(place)) {
            return BAD;
        }
        switch (what) {
            case 0:
                return town.oil[place];
            case 1:
                return town.oil[place] > 0 ? 1 : 0;
            case 2:
                return town.sitters[place];
            case 3:
                return town.playersAt(place);
            default:
                return BAD;
        }
    }

    // ---- foretold

    public int ahead(int player, int d) {
        if (!town.hasPlayer(player) || !isWithin(d, 0, FORETOLD_EVENINGS)) {
            return BAD;
        }
        foretellNow();
        foretold.passEvenings(d);
        return foretold.placeOf(player);
    }

    public int oil(int place, int d) {
        if (!town.hasPlace(place) || !isWithin(d, 0, FORETOLD_EVENINGS)) {
            return BAD;
        }
        foretellNow();
        foretold.passEvenings(d);
        return foretold.oil[place];
    }

    public int later(int d, int what) {
        if (!town.stands()) {
            return STATE;
        }
        if (!isWithin(d, 0, FORETOLD_EVENINGS) || !isEither(what)) {
            return BAD;
        }
        foretellNow();
        foretold.passEvenings(d);
        return what == 0 ? foretold.litPlaces() : foretold.claps;
    }

    public int crossing(int player) {
        if (!town.hasPlayer(player)) {
            return BAD;
        }
        foretellNow();
        for (int d = 0; d <= FORETOLD_EVENINGS; d++) {
            if (foretold.hasCrossed(player)) {
                return d;
            }
            foretold.passEvening();
        }
        return NONE;
    }

    public int out(int place) {
        if (!town.hasPlace(place)) {
            return BAD;
        }
        foretellNow();
        for (int d = 0; d <= FORETOLD_EVENINGS; d++) {
            if (foretold.oil[place] == 0) {
                return d;
            }
            foretold.passEvening();
        }
        return NONE;
    }

    public int gap(int what) {
        if (!town.stands()) {
            return STATE;
        }
        if (!isEither(what)) {
            return BAD;
        }
        int first = NONE;
        int longest = 0;
        int dark = 0;
        for (int i = 0; i < town.places; i++) {
            dark = town.oil[i] == 0 ? dark + 1 : 0;
            if (dark > longest) {
                longest = dark;
                first = i - dark + 1;
            }
        }
        if (longest == 0) {
            return NONE;
        }
        return what == 0 ? first : longest;
    }

    public int hold(int player, int place, int n) {
        if (!town.hasPlayer(player) || !town.hasPlace(place) || !isWithin(n, 1, PLANNED_EVENINGS)) {
            return BAD;
        }
        for (int poured = 0; poured <= MOST_OIL; poured++) {
            foretellNow();
            foretold.addOil(place, poured);
            if (!foretold.letsCross(player, n)) {
                return poured;
            }
        }
        return NONE;
    }

    public int fill(int n, int what) {
        if (!town.stands()) {
            return STATE;
        }
        if (!isWithin(n, 1, PLANNED_EVENINGS) || !isEither(what)) {
            return BAD;
        }
        int fewest = fewestFilled(n);
        if (fewest == NONE) {
            return NONE;
        }
        return what == 0 ? Integer.bitCount(fewest) : fewest;
    }

    public int lure(int n, int what) {
        if (!town.stands()) {
            return STATE;
        }
        if (!isWithin(n, 1, PLANNED_EVENINGS) || !isEither(what)) {
            return BAD;
        }
        int best = 0;
        int most = -1;
        for (int i = 0; i < town.places; i++) {
            foretellNow();
            foretold.putOut(1 << i);
            foretold.passEvenings(n);
            int crossed = Integer.bitCount(foretold.crossed);
            if (crossed > most) {
                most = crossed;
                best = i;
            }
        }
        return what == 0 ? best : most;
    }

    public int fits(int player, int row, int i, int n, int what) {
        if (!town.hasPlayer(player) || !isRow(row) || !isWithin(n, 1, TOLD_EVENINGS) || !isWithin(what, 0, 2)) {
            return BAD;
        }
        if (town.hasCrossed(player)) {
            return STATE;
        }
        Row told = rows[row];
        if (told.isMissing()) {
            return found(FOUND_NULL);
        }
        if (!told.hasItems(i, n)) {
            return found(FOUND_PLACE);
        }
        return foundNothing(fitting(player, told, i, n, what));
    }

    public int sits(int row, int i, int n) {
        if (!town.stands()) {
            return STATE;
        }
        if (!isRow(row) || !isWithin(n, 1, TOLD_EVENINGS)) {
            return BAD;
        }
        Row told = rows[row];
        if (told.isMissing()) {
            return found(FOUND_NULL);
        }
        if (!told.hasItems(i, n)) {
            return found(FOUND_PLACE);
        }
        int places = 0;
        for (int place = 0; place < town.places; place++) {
            foretellNow();
            foretold.sitters[place]++;
            if (clapsAsTold(told, i, n)) {
                places |= 1 << place;
            }
        }
        return foundNothing(places);
    }

    public int wind(int player, int n, int c, int what) {
        if (!town.hasPlayer(player) || !isWithin(n, 0, PLANNED_EVENINGS) || !isWithin(c, 0, 10) || !isEither(what)) {
            return BAD;
        }
        int flames = flamesThatMatter(player);
        int below = power(10, Integer.bitCount(flames));
        int above = crossedByWind(player, n, c, flames);
        int common = greatestCommon(above, below);
        return what == 0 ? above / common : below / common;
    }

    public int drawn(int n, int seed, int what) {
        if (!town.stands()) {
            return STATE;
        }
        if (!isWithin(n, 0, FORETOLD_EVENINGS) || !isWithin(seed, 1, MOST_SEED) || !isEither(what)) {
            return BAD;
        }
        foretellNow();
        int x = seed;
        for (int i = 0; i < n; i++) {
            x = (int) (x * 16807L % 2147483647L);
            foretold.takeDraw(x);
            foretold.passEvening();
        }
        return what == 0 ? foretold.claps - town.claps : Integer.bitCount(foretold.crossed);
    }

    public int image(int k) {
        if (!isEither(k)) {
            return BAD;
        }
        if (!town.stands()) {
            return STATE;
        }
        images[k].become(town);
        return 1;
    }

    public int restore(int k) {
        if (!isEither(k)) {
            return BAD;
        }
        if (!images[k].stands()) {
            return STATE;
        }
        town.become(images[k]);
        acts.forget();
        return 1;
    }

    // ---- asked

    public int kind(int player) {
        return town.hasPlayer(player) ? town.sort[player] : BAD;
    }

    public int as(int player, int kind) {
        if (!town.hasPlayer(player) || !isWithin(kind, 0, WIDOW)) {
            return BAD;
        }
        if (!hasBit(IS_ALSO[town.sort[player]], kind)) {
            return found(FOUND_KIND);
        }
        return foundNothing(player);
    }

    public int ask(int player, int what) {
        if (!town.hasPlayer(player) || !isEither(what)) {
            return BAD;
        }
        tracedNumbers = 0;
        return beginBody(firstBody(player, what), player, 1);
    }

    public int trace(int i) {
        return i >= 0 && i < tracedNumbers ? traced[i] : NONE;
    }

    public int count(int what) {
        switch (what) {
            case 0:
                return rowsThatAre();
            case 1:
                return town.places;
            case 2:
                return town.players;
            case 3:
                return town.evening;
            case 4:
                return town.claps;
            case 5:
                return Integer.bitCount(town.crossed);
            case 6:
                return town.sittersInAll();
            case 7:
                return town.litPlaces();
            case 8:
                return acts.kept;
            case 9:
                return tape.length;
            default:
                return BAD;
        }
    }

    public int status() {
        return finding;
    }

    // ---- behind the calls

    private static boolean isRow(int row) {
        return row >= 0 && row < ROWS;
    }

    private static boolean isWithin(int n, int least, int most) {
        return n >= least && n <= most;
    }

    private static boolean isEither(int what) {
        return what == 0 || what == 1;
    }

    private static boolean hasBit(int bits, int i) {
        return (bits >> i & 1) == 1;
    }

    private int found(int number) {
        finding = number;
        return FINDINGS - number;
    }

    private int foundNothing(int answer) {
        finding = 0;
        return answer;
    }

    private int rowsThatAre() {
        int n = 0;
        for (int i = 0; i < ROWS; i++) {
            if (!rows[i].isMissing()) {
                n++;
            }
        }
        return n;
    }

    private void foretellNow() {
        foretold.become(town);
    }

    /**
     * The bits of the fewest places that are to be filled; NONE. As long as all are lit, nobody goes by
     * how much oil there is, and what is dark stays dark: so a flame is to be filled just if it has no
     * more than it burns with all of them lit.
     */
    private int fewestFilled(int n) {
        foretellNow();
        foretold.fillUp(PLENTY_OF_OIL);
        foretold.passEvenings(n);
        int filled = 0;
        for (int i = 0; i < town.places; i++) {
            int burnt = PLENTY_OF_OIL - foretold.oil[i];
            if (MOST_OIL <= burnt) {
                return NONE;
            }
            if (town.oil[i] <= burnt) {
                filled |= 1 << i;
            }
        }
        return filled;
    }

    /** The bits of the kinds (what = 0), the places (1), the ways (2) of a player by which it is as told. */
    private int fitting(int player, Row told, int i, int n, int what) {
        int first = what == 0 ? FARMER : 0;
        int last = what == 0 ? WIDOW : what == 1 ? town.places - 1 : 1;
        int fitting = 0;
        for (int guess = first; guess <= last; guess++) {
            foretellNow();
            if (what == 0) {
                foretold.sort[player] = guess;
            } else if (what == 1) {
                foretold.at[player] = guess;
            } else {
                foretold.way[player] = guess;
            }
            if (goesAsTold(player, told, i, n)) {
                fitting |= 1 << guess;
            }
        }
        return fitting;
    }

    private boolean goesAsTold(int player, Row told, int i, int n) {
        for (int k = 0; k < n; k++) {
            foretold.passEvening();
            int where = foretold.hasCrossed(player) ? TOLD_AS_CROSSED : foretold.at[player];
            if (told.items[i + k] != where) {
                return false;
            }
        }
        return true;
    }

    private boolean clapsAsTold(Row told, int i, int n) {
        for (int k = 0; k < n; k++) {
            foretold.passEvening();
            if (told.items[i + k] != foretold.latestClaps) {
                return false;
            }
        }
        return true;
    }

    /**
     * The flames that the wind may put out with a difference for whether a player crosses: farmers
     * and children never cross, carts and widows cross at an end, be it lit or dark.
     */
    private int flamesThatMatter(int player) {
        return town.sort[player] == LAD ? town.litPlaces() : 0;
    }

    /** Of 10 to the power of how many flames there are, how often the player has crossed. */
    private int crossedByWind(int player, int n, int c, int flames) {
        int all = Integer.bitCount(flames);
        int crossed = 0;
        for (int blown = 0; blown < 1 << MOST_PLACES; blown++) {
            if ((blown & ~flames) != 0) {
                continue;
            }
            int number = Integer.bitCount(blown);
            int weight = power(c, number) * power(10 - c, all - number);
            if (weight == 0) {
                continue;
            }
            foretellNow();
            foretold.putOut(blown);
            if (foretold.letsCross(player, n)) {
                crossed += weight;
            }
        }
        return crossed;
    }

    private static int power(int base, int times) {
        int power = 1;
        for (int i = 0; i < times; i++) {
            power *= base;
        }
        return power;
    }

    /** Never 0, so that it may divide. */
    private static int greatestCommon(int a, int b) {
        int common = b;
        int rest = a;
        for (int i = 0; i < EUCLID_STEPS && rest > 0; i++) {
            int next = common % rest;
            common = rest;
            rest = next;
        }
        return Math.max(1, common);
    }

    private int firstBody(int player, int what) {
        int kind = town.sort[player];
        return what == 0 ? SIZE_BODIES[kind] : MARK_BODIES[kind];
    }

    private int beginBody(int number, int player, int depth) {
        if (depth > DEEPEST_BODY) {
            return 0;
        }
        leaveTrace(number);
        return bodyGives(number, player, depth + 1);
    }

    private int bodyGives(int number, int player, int deeper) {
        switch (number) {
            case 10:
                return town.way[player];
            case 11:
                return beginBody(10, player, deeper) + beginBody(firstBody(player, 1), player, deeper);
            case 12:
                return -beginBody(11, player, deeper);
            case 13:
                return beginBody(10, player, deeper) - 100;
            case 14:
                return beginBody(13, player, deeper) * 2;
            case 20:
                return player;
            case 21:
                return beginBody(20, player, deeper) + town.at[player];
            case 22:
                return beginBody(21, player, deeper) - 1000;
            case 23:
                return beginBody(20, player, deeper) - beginBody(firstBody(player, 0), player, deeper);
            case 24:
                return beginBody(21, player, deeper) * 2;
            default:
                return 0;
        }
    }

    private void leaveTrace(int number) {
        if (tracedNumbers < TRACE_NUMBERS) {
            traced[tracedNumbers] = number;
            tracedNumbers++;
        }
    }

    /** A row of numbers in a lane; it keeps its room while it is missing. */
    private static final class Row {
        static final int BYTES = 0;
        static final int SHORTS = 1;
        static final int INTS = 2;
        private static final int NO_LANE = -1;

        final int[] items = new int[MOST_ITEMS];
        int lane = NO_LANE;
        int length;

        boolean isMissing() {
            return lane == NO_LANE;
        }

        void begin(int newLane, int n) {
            lane = newLane;
            length = n;
            for (int i = 0; i < MOST_ITEMS; i++) {
                items[i] = 0;
            }
        }

        void end() {
            lane = NO_LANE;
            length = 0;
        }

        boolean hasItems(int from, int n) {
            return from >= 0 && n >= 0 && n <= length && from <= length - n;
        }

        int narrowed(int v) {
            switch (lane) {
                case BYTES:
                    return (byte) v;
                case SHORTS:
                    return (short) v;
                default:
                    return v;
            }
        }
    }

    /** The bytes that have come, and how a town is read from them. */
    private static final class Tape {
        private static final int CANNOT_STAND = 1;
        private static final int NOT_AS_TOLD = 2;
        private static final int NO_ROOM = 3;
        private static final int NO_NUMBER = -1;

        private final int[] letters = new int[TAPE_BYTES];
        int length;
        int faultNumber;
        int faultPlace;
        private int next;

        boolean isFull() {
            return length >= TAPE_BYTES;
        }

        int add(int letter) {
            letters[length] = letter;
            length++;
            return length;
        }

        void clear() {
            length = 0;
        }

        boolean readInto(Town town) {
            next = 0;
            town.clear();
            return readLaw(town) && readFlames(town) && readSitters(town) && readPlayers(town);
        }

        private boolean readLaw(Town town) {
            if (!passes('t')) {
                return false;
            }
            town.burn = readNumber(1, 3);
            return town.burn != NO_NUMBER && passes(';');
        }

        private boolean readFlames(Town town) {
            for (int i = 0; i <= MOST_PLACES; i++) {
                if (i >= LEAST_PLACES && !isNext('f')) {
                    return true;
                }
                if (!readFlame(town)) {
                    return false;
                }
            }
            return true;
        }

        private boolean readFlame(Town town) {
            if (isNext('f') && town.places == MOST_PLACES) {
                return faultHere(NO_ROOM);
            }
            if (!passes('f')) {
                return false;
            }
            int oil = readNumber(0, MOST_OIL);
            if (oil == NO_NUMBER) {
                return false;
            }
            town.oil[town.places] = oil;
            town.places++;
            return passes(';');
        }

        private boolean readSitters(Town town) {
            for (int i = 0; i <= MOST_TOLD_SITTERS && isNext('z'); i++) {
                if (i == MOST_TOLD_SITTERS) {
                    return faultHere(NO_ROOM);
                }
                next++;
                int place = readNumber(0, town.places - 1);
                if (place == NO_NUMBER) {
                    return false;
                }
                town.sitters[place]++;
                if (!passes(';')) {
                    return false;
                }
            }
            return true;
        }

        private boolean readPlayers(Town town) {
            for (int i = 0; i <= MOST_PLAYERS && next < length; i++) {
                if (!readPlayer(town)) {
                    return false;
                }
            }
            return true;
        }

        private boolean readPlayer(Town town) {
            int sort = sortOf(letters[next]);
            if (sort == 0) {
                return faultHere(CANNOT_STAND);
            }
            if (town.players == MOST_PLAYERS) {
                return faultHere(NO_ROOM);
            }
            next++;
            int place = readNumber(0, town.places - 1);
            if (place == NO_NUMBER || !passes(',')) {
                return false;
            }
            int way = readNumber(0, 1);
            if (way == NO_NUMBER) {
                return false;
            }
            town.addPlayer(sort, place, way);
            return passes(';');
        }

        private static int sortOf(int letter) {
            switch (letter) {
                case 'a':
                    return FARMER;
                case 'l':
                    return LAD;
                case 'c':
                    return CHILD;
                case 'r':
                    return CART;
                case 'w':
                    return WIDOW;
                default:
                    return 0;
            }
        }

        private boolean isNext(int letter) {
            return next < length && letters[next] == letter;
        }

        private boolean passes(int letter) {
            if (!isNext(letter)) {
                return faultHere(CANNOT_STAND);
            }
            next++;
            return true;
        }

        private int readNumber(int least, int most) {
            int figures = 0;
            int number = 0;
            // A third figure is looked at, for with it the run is no number.
            for (int i = next; i < length && figures < 3 && isFigure(letters[i]); i++) {
                number = number * 10 + letters[i] - '0';
                figures++;
            }
            if (figures == 0 || figures > 2) {
                faultHere(CANNOT_STAND);
                return NO_NUMBER;
            }
            if (number < least || number > most) {
                faultHere(NOT_AS_TOLD);
                return NO_NUMBER;
            }
            next += figures;
            return number;
        }

        private static boolean isFigure(int letter) {
            return letter >= '0' && letter <= '9';
        }

        /** Always false, so that what is read can end with it. */
        private boolean faultHere(int number) {
            faultNumber = number;
            faultPlace = next;
            return false;
        }
    }

    /** A town as it is, was or may be; one without places does not stand. */
    private static final class Town {
        private static final int UP = 1;

        final int[] oil = new int[MOST_PLACES];
        final int[] sitters = new int[MOST_PLACES];
        final int[] sort = new int[MOST_PLAYERS];
        final int[] at = new int[MOST_PLAYERS];
        final int[] way = new int[MOST_PLAYERS];
        int places;
        int players;
        int burn;
        int crossed;
        int evening;
        int claps;
        int latestClaps;

        boolean stands() {
            return places > 0;
        }

        boolean hasPlace(int place) {
            return place >= 0 && place < places;
        }

        boolean hasPlayer(int player) {
            return player >= 0 && player < players;
        }

        boolean hasCrossed(int player) {
            return (crossed >> player & 1) == 1;
        }

        void clear() {
            places = 0;
            players = 0;
            burn = 0;
            crossed = 0;
            evening = 0;
            claps = 0;
            latestClaps = 0;
            for (int i = 0; i < MOST_PLACES; i++) {
                sitters[i] = 0;
            }
        }

        void become(Town other) {
            places = other.places;
            players = other.players;
            burn = other.burn;
            crossed = other.crossed;
            evening = other.evening;
            claps = other.claps;
            latestClaps = other.latestClaps;
            System.arraycopy(other.oil, 0, oil, 0, MOST_PLACES);
            System.arraycopy(other.sitters, 0, sitters, 0, MOST_PLACES);
            System.arraycopy(other.sort, 0, sort, 0, MOST_PLAYERS);
            System.arraycopy(other.at, 0, at, 0, MOST_PLAYERS);
            System.arraycopy(other.way, 0, way, 0, MOST_PLAYERS);
        }

        void addPlayer(int newSort, int place, int newWay) {
            sort[players] = newSort;
            at[players] = place;
            way[players] = newWay;
            players++;
        }

        void addOil(int place, int n) {
            oil[place] = Math.min(MOST_OIL, oil[place] + n);
        }

        void fillUp(int n) {
            for (int i = 0; i < places; i++) {
                oil[i] = n;
            }
        }

        void putOut(int some) {
            for (int i = 0; i < places; i++) {
                if (hasBit(some, i)) {
                    oil[i] = 0;
                }
            }
        }

        void turnRound(int player) {
            way[player] = 1 - way[player];
        }

        int placeOf(int player) {
            return hasCrossed(player) ? NONE : at[player];
        }

        int playersAt(int place) {
            int there = 0;
            for (int i = 0; i < players; i++) {
                if (placeOf(i) == place) {
                    there |= 1 << i;
                }
            }
            return there;
        }

        int sittersInAll() {
            int all = 0;
            for (int i = 0; i < places; i++) {
                all += sitters[i];
            }
            return all;
        }

        int litPlaces() {
            int lit = 0;
            for (int i = 0; i < places; i++) {
                if (oil[i] > 0) {
                    lit |= 1 << i;
                }
            }
            return lit;
        }

        int clapsFor(int player, int lit) {
            int place = at[player];
            if (hasCrossed(player) || !hasBit(lit, place)) {
                return 0;
            }
            int near = 0;
            for (int i = place - 1; i <= place + 1; i++) {
                if (hasPlace(i)) {
                    near += sitters[i];
                }
            }
            return near;
        }

        void passEvenings(int n) {
            for (int i = 0; i < n; i++) {
                passEvening();
            }
        }

        boolean letsCross(int player, int n) {
            for (int i = 0; i < n && !hasCrossed(player); i++) {
                passEvening();
            }
            return hasCrossed(player);
        }

        void passEvening() {
            int lit = litPlaces();
            int crossedBefore = crossed;
            for (int i = 0; i < players; i++) {
                if (!hasCrossed(i)) {
                    letGo(i, lit);
                }
            }
            clap(lit);
            // Whoever crossed this evening has not been a sitter for its claps.
            seat(crossed & ~crossedBefore);
            burnDown(lit);
            evening++;
        }

        /** By a draw of a year, a flame is put out or oil is poured. */
        void takeDraw(int x) {
            if (places == 0) {
                return;
            }
            int place = x % places;
            if (x % 3 == 0) {
                oil[place] = 0;
            } else {
                addOil(place, x % 8);
            }
        }

        private void letGo(int player, int lit) {
            switch (sort[player]) {
                case FARMER:
                    goAsFarmer(player, lit);
                    break;
                case LAD:
                    goAsLad(player, lit);
                    break;
                case CHILD:
                    goAsChild(player, lit);
                    break;
                case CART:
                    goAsCart(player);
                    break;
                case WIDOW:
                    if (evening % 2 == 0) {
                        goAsCart(player);
                    }
                    break;
                default:
                    break;
            }
        }

        private void goAsFarmer(int player, int lit) {
            if (!hasBit(lit, at[player])) {
                at[player] += stepTowards(lit, at[player]);
            }
        }

        private void goAsLad(int player, int lit) {
            if (!hasBit(lit, at[player])) {
                crossed |= 1 << player;
                return;
            }
            int dark = ~lit & ((1 << places) - 1);
            at[player] += stepTowards(dark, at[player]);
        }

        private void goAsChild(int player, int lit) {
            int next = nextByWay(player);
            if (hasPlace(next) && hasBit(lit, next)) {
                at[player] = next;
            } else {
                turnRound(player);
            }
        }

        private void goAsCart(int player) {
            int next = nextByWay(player);
            if (hasPlace(next)) {
                at[player] = next;
            } else {
                crossed |= 1 << player;
            }
        }

        private int nextByWay(int player) {
            return way[player] == UP ? at[player] + 1 : at[player] - 1;
        }

        /** One place down or up to the nearest of some others, of two the lesser one; 0 if there are none. */
        private static int stepTowards(int others, int place) {
            for (int apart = 1; apart < MOST_PLACES; apart++) {
                if (place >= apart && (others >> place - apart & 1) == 1) {
                    return -1;
                }
                if ((others >> place + apart & 1) == 1) {
                    return 1;
                }
            }
            return 0;
        }

        private void clap(int lit) {
            latestClaps = 0;
            for (int i = 0; i < players; i++) {
                latestClaps += clapsFor(i, lit);
            }
            claps = Math.min(MOST_CLAPS, claps + latestClaps);
        }

        private void seat(int crossers) {
            for (int i = 0; i < players; i++) {
                if (hasBit(crossers, i)) {
                    sitters[at[i]]++;
                }
            }
        }

        private void burnDown(int lit) {
            for (int i = 0; i < players; i++) {
                if (!hasCrossed(i) && hasBit(lit, at[i])) {
                    oil[at[i]]--;
                }
            }
            for (int i = 0; i < places; i++) {
                if (hasBit(lit, i)) {
                    oil[i] = Math.max(0, oil[i] - burn);
                }
            }
        }
    }

    /** The latest acts, each kept as the town that it changed. */
    private static final class Acts {
        private final Town[] before = new Town[MOST_ACTS];
        private int next;
        int kept;

        Acts() {
            for (int i = 0; i < MOST_ACTS; i++) {
                before[i] = new Town();
            }
        }

        void keep(Town town) {
            before[next].become(town);
            next = (next + 1) % MOST_ACTS;
            kept = Math.min(MOST_ACTS, kept + 1);
        }

        void takeBack(Town town) {
            if (kept > 0) {
                next = (next + MOST_ACTS - 1) % MOST_ACTS;
                kept--;
                town.become(before[next]);
            }
        }

        void forget() {
            kept = 0;
        }
    }
}
