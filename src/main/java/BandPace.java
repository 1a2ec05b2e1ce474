/**
 * A band that gets quicker: players who hear one another, lean at places of a
 * song, hasten; what is played, what is foretold, what is asked.
 */
public final class BandPace {
    public static final int NONE = -1000000, BAD = -1000001, STATE = -1000002, FULL = -1000003;

    private static final int FINDINGS = -1000010;
    private static final int MISSING_ROW = 1, NO_PLACE = 2, OTHER_KIND = 3, BELOW_NONE = 4, TWO_LANES = 5;
    private static final int FAULTS = -1000100;

    private static final int MOST_ROWS = 8, MOST_ITEMS = 40, LANES = 3;
    private static final int MOST_BYTES = 140;
    private static final int MOST_PLAYERS = 5, MOST_SONG = 12, MOST_EARS = 12, MOST_LAW = 20, MOST_HASTE = 9;
    private static final int MOST_WEIGHT = 9, WEIGHT_PARTS = 10;
    private static final int LEAST_TOLD = 40, MOST_TOLD = 99, TENTHS = 10;
    private static final int LEAST_PACE = 300, MOST_PACE = 2500;
    private static final int MOST_ACTS = 24, MOST_AT_ONCE = 24, MOST_GONE = 999, MOST_CLAPS = 99;
    private static final int MOST_AHEAD = 200, MOST_OTHER = 99, MOST_DANCERS = 10, MOST_LESS = 99;
    private static final int MOST_BACK = 40, MOST_SONGS = 6, MOST_ORDERS = 720, MOST_PUSH = 20;
    private static final int MOST_NIGHT = 100, MOST_SEED = 999999, UNNOTICED = 9;
    private static final int MOST_IMAGES = 2, MOST_TRACE = 16;

    private static final int FILL = 1, QUIET = 2, CHORUS = 3, HELD = 4;
    private static final int PLAYER = 0, STEADY = 1, RUSHER = 2, DRAGGER = 3, CLICKED = 4, LEADER = 5, KINDS = 6;

    private final Rows rows;
    private final Tape tape;
    private final Band now;
    private final Band draft;
    private final Acts acts;
    private final Seer seer;
    private final Orders orders;
    private final Asks asks;
    private final Band[] images;
    private int latestFault;
    private int latestFinding;

    public BandPace() {
        rows = new Rows();
        tape = new Tape();
        now = new Band();
        draft = new Band();
        acts = new Acts();
        seer = new Seer();
        orders = new Orders();
        asks = new Asks();
        images = new Band[MOST_IMAGES];
        for (int k = 0; k < MOST_IMAGES; k++) {
            images[k] = new Band();
        }
    }

    // ---- rows

    public int row(int row, int lane, int n) {
        if (!rows.isRow(row) || !within(lane, 0, LANES - 1) || n > MOST_ITEMS) {
            return BAD;
        }
        if (n < 0) {
            return found(BELOW_NONE);
        }
        rows.make(row, lane, n);
        return withoutFinding(n);
    }

    public int set(int row, int i, int v) {
        if (!rows.isRow(row)) {
            return BAD;
        }
        if (rows.lacks(row)) {
            return found(MISSING_ROW);
        }
        if (!rows.holds(row, i, 1)) {
            return found(NO_PLACE);
        }
        return withoutFinding(rows.put(row, i, v));
    }

    public int copy(int a, int i, int b, int j, int n) {
        if (!rows.isRow(a) || !rows.isRow(b)) {
            return BAD;
        }
        if (rows.lacks(a) || rows.lacks(b)) {
            return found(MISSING_ROW);
        }
        if (rows.laneOf(a) != rows.laneOf(b)) {
            return found(TWO_LANES);
        }
        if (!rows.holds(a, i, n) || !rows.holds(b, j, n)) {
            return found(NO_PLACE);
        }
        rows.carry(a, i, b, j, n);
        return withoutFinding(n);
    }

    public int drop(int row) {
        if (!rows.isRow(row)) {
            return BAD;
        }
        if (rows.lacks(row)) {
            return found(MISSING_ROW);
        }
        return withoutFinding(rows.forget(row));
    }

    // ---- what is told

    public int feed(int letter) {
        if (!within(letter, 0, 255)) {
            return BAD;
        }
        return tape.takeIn(letter) ? tape.length : FULL;
    }

    public int band() {
        boolean read = tape.readInto(draft);
        tape.length = 0;
        if (!read) {
            latestFault = tape.fault;
            return FAULTS - tape.place;
        }
        now.become(draft);
        acts.forget();
        return now.players;
    }

    public int fault() {
        return latestFault;
    }

    public int undo() {
        return acts.takeBack(now) ? acts.kept : STATE;
    }

    // ---- what is done

    public int bars(int n) {
        if (!now.stands()) {
            return STATE;
        }
        if (!within(n, 1, MOST_AT_ONCE)) {
            return BAD;
        }
        if (now.gone + n > MOST_GONE) {
            return FULL;
        }
        for (int k = 0; k < n; k++) {
            acts.keep(now);
            now.play();
        }
        return now.together();
    }

    public int pace(int player, int v) {
        if (!now.has(player) || !within(v, LEAST_PACE, MOST_PACE)) {
            return BAD;
        }
        acts.keep(now);
        int was = now.paces[player];
        now.paces[player] = v;
        return was;
    }

    public int hears(int i, int j, int w) {
        if (!now.canHear(i, j) || !within(w, 0, MOST_WEIGHT)) {
            return BAD;
        }
        acts.keep(now);
        int was = now.weight(i, j);
        now.weigh(i, j, w);
        return was;
    }

    public int click(int v) {
        if (!now.stands()) {
            return STATE;
        }
        if (!within(v, LEAST_TOLD, MOST_TOLD)) {
            return BAD;
        }
        acts.keep(now);
        int was = now.clickTold;
        now.clickTold = v;
        return was;
    }

    public int claps(int c) {
        if (!now.stands()) {
            return STATE;
        }
        if (!within(c, 1, MOST_CLAPS)) {
            return BAD;
        }
        acts.keep(now);
        now.quicken(c);
        return now.together();
    }

    public int player(int player, int what) {
        if (!now.has(player)) {
            return BAD;
        }
        switch (what) {
            case 0:
                return now.paces[player];
            case 1:
                return now.hastes[player];
            case 2:
                return now.leanAt(player, now.barAt(now.next));
            case 3:
                return now.heardBy(player);
            default:
                return BAD;
        }
    }

    public int ear(int i, int j) {
        return now.canHear(i, j) ? now.weight(i, j) : BAD;
    }

    public int bar(int k) {
        return within(k, 0, now.length - 1) ? now.barAt(k) : BAD;
    }

    // ---- foretold

    public int ahead(int player, int n) {
        if (!now.stands()) {
            return STATE;
        }
        if ((player != -1 && !now.has(player)) || !within(n, 0, MOST_AHEAD)) {
            return BAD;
        }
        Band then = seer.behind(now, n);
        return player == -1 ? then.together() : then.paces[player];
    }

    public int drift() {
        return now.stands() ? seer.driftOf(now) : STATE;
    }

    public int round(int what) {
        if (!now.stands()) {
            return STATE;
        }
        if (!within(what, 0, 1)) {
            return BAD;
        }
        if (!seer.findRound(now)) {
            return NONE;
        }
        return what == 0 ? seer.first : seer.second;
    }

    public int noticed(int n, int d) {
        if (!now.stands()) {
            return STATE;
        }
        if (!within(n, 1, MOST_AHEAD) || !within(d, 0, MOST_OTHER)) {
            return BAD;
        }
        return seer.firstNoticed(now, n, d);
    }

    public int dancers(int row, int i, int m, int n, int what) {
        if (!now.stands()) {
            return STATE;
        }
        if (!rows.isRow(row) || !within(m, 1, MOST_DANCERS) || !within(n, 0, MOST_AHEAD) || !within(what, 0, 1)) {
            return BAD;
        }
        if (rows.lacks(row)) {
            return found(MISSING_ROW);
        }
        if (!rows.holds(row, i, 2 * m)) {
            return found(NO_PLACE);
        }
        rows.lend(row, i, 2 * m);
        seer.findFallen(now, rows.lent, m, n);
        return withoutFinding(what == 0 ? seer.first : seer.second);
    }

    public int countIn(int n, int pace) {
        if (!now.stands()) {
            return STATE;
        }
        if (!within(n, 0, MOST_AHEAD) || !within(pace, LEAST_PACE, MOST_PACE)) {
            return BAD;
        }
        return seer.bestCountIn(now, n, pace);
    }

    public int deaf(int what) {
        if (!now.stands()) {
            return STATE;
        }
        if (!within(what, 0, 1)) {
            return BAD;
        }
        seer.findDeaf(now);
        return what == 0 ? seer.first : seer.second;
    }

    public int inEar(int what) {
        if (!now.stands()) {
            return STATE;
        }
        if (!within(what, 0, 1)) {
            return BAD;
        }
        seer.findInEar(now);
        return what == 0 ? seer.first : seer.second;
    }

    public int blame(int player) {
        return now.has(player) ? seer.blameOf(now, player) : BAD;
    }

    public int back(int player, int d, int n, int pace) {
        if (!now.has(player) || !within(d, 1, MOST_LESS) || !within(n, 1, MOST_BACK)
                || !within(pace, LEAST_PACE, MOST_PACE)) {
            return BAD;
        }
        if (!isOf(now.kinds[player], CLICKED)) {
            return STATE;
        }
        return seer.bestBack(now, player, d, n, pace);
    }

    public int songs(int row, int i, int n, int k) {
        if (!rows.isRow(row) || !within(n, 1, MOST_SONGS) || !within(k, -1, n - 1)) {
            return BAD;
        }
        if (rows.lacks(row)) {
            return found(MISSING_ROW);
        }
        if (!rows.holds(row, i, n)) {
            return found(NO_PLACE);
        }
        rows.lend(row, i, n);
        for (int s = 0; s < n; s++) {
            if (!within(rows.lent[s], 0, MOST_PACE)) {
                return BAD;
            }
        }
        orders.findLeast(rows.lent, n);
        return withoutFinding(k == -1 ? orders.least : orders.best[k]);
    }

    public int clapped(int c, int n) {
        if (!now.stands()) {
            return STATE;
        }
        if (!within(c, 1, MOST_CLAPS) || !within(n, 0, MOST_AHEAD)) {
            return BAD;
        }
        return seer.gainOfClaps(now, c, n);
    }

    public int whoPushed(int row, int i, int what) {
        if (!now.stands()) {
            return STATE;
        }
        if (!rows.isRow(row) || !within(what, 0, 1)) {
            return BAD;
        }
        if (rows.lacks(row)) {
            return found(MISSING_ROW);
        }
        if (!rows.holds(row, i, now.players)) {
            return found(NO_PLACE);
        }
        rows.lend(row, i, now.players);
        seer.findPushers(now, rows.lent);
        return withoutFinding(what == 0 ? seer.first : seer.second);
    }

    public int night(int n, int seed, int what) {
        if (!now.stands()) {
            return STATE;
        }
        if (!within(n, 0, MOST_NIGHT) || !within(seed, 1, MOST_SEED) || !within(what, 0, 1)) {
            return BAD;
        }
        seer.findNight(now, n, seed);
        return what == 0 ? seer.first : seer.second;
    }

    public int image(int k) {
        if (!within(k, 0, MOST_IMAGES - 1)) {
            return BAD;
        }
        if (!now.stands()) {
            return STATE;
        }
        images[k].become(now);
        return 1;
    }

    public int restore(int k) {
        if (!within(k, 0, MOST_IMAGES - 1)) {
            return BAD;
        }
        if (!images[k].stands()) {
            return STATE;
        }
        now.become(images[k]);
        acts.forget();
        return 1;
    }

    // ---- asked

    public int kind(int one) {
        return now.has(one) ? now.kinds[one] : BAD;
    }

    public int as(int one, int kind) {
        if (!now.has(one) || !within(kind, 0, KINDS - 1)) {
            return BAD;
        }
        if (!isOf(now.kinds[one], kind)) {
            return found(OTHER_KIND);
        }
        return withoutFinding(one);
    }

    public int ask(int one, int what) {
        if (!now.has(one) || !within(what, 0, 1)) {
            return BAD;
        }
        return asks.answer(now, one, what);
    }

    public int trace(int i) {
        return within(i, 0, asks.traced - 1) ? asks.numbers[i] : NONE;
    }

    public int count(int what) {
        switch (what) {
            case 0:
                return rows.howMany();
            case 1:
                return now.players;
            case 2:
                return now.length;
            case 3:
                return now.next;
            case 4:
                return now.gone;
            case 5:
                return now.together();
            case 6:
                return now.clickTold;
            case 7:
                return acts.kept;
            case 8:
                return tape.length;
            default:
                return BAD;
        }
    }

    public int status() {
        return latestFinding;
    }

    private int found(int finding) {
        latestFinding = finding;
        return FINDINGS - finding;
    }

    private int withoutFinding(int answer) {
        latestFinding = 0;
        return answer;
    }

    private static boolean within(int v, int least, int most) {
        return v >= least && v <= most;
    }

    private static int bounded(int v) {
        return v < LEAST_PACE ? LEAST_PACE : v > MOST_PACE ? MOST_PACE : v;
    }

    /** Whether a player of a kind is one of another kind, too: a rusher is a steady one, all are players. */
    private static boolean isOf(int kind, int other) {
        if (other == PLAYER || other == kind) {
            return true;
        }
        if (other == STEADY) {
            return kind == RUSHER || kind == DRAGGER;
        }
        return other == CLICKED && kind == LEADER;
    }

    /** The rows, all in one strip that is made once. */
    private static final class Rows {
        private static final int MISSING = -1;

        private final int[] lanes;
        private final int[] sizes;
        private final int[] items;
        final int[] lent;

        Rows() {
            lanes = new int[]{MISSING, MISSING, MISSING, MISSING, MISSING, MISSING, MISSING, MISSING};
            sizes = new int[MOST_ROWS];
            items = new int[MOST_ROWS * MOST_ITEMS];
            lent = new int[MOST_ITEMS];
        }

        boolean isRow(int row) {
            return row >= 0 && row < MOST_ROWS;
        }

        boolean lacks(int row) {
            return lanes[row] == MISSING;
        }

        int laneOf(int row) {
            return lanes[row];
        }

        boolean holds(int row, int i, int n) {
            return i >= 0 && n >= 0 && i <= sizes[row] - n;
        }

        void make(int row, int lane, int n) {
            lanes[row] = lane;
            sizes[row] = n;
            for (int i = 0; i < MOST_ITEMS; i++) {
                items[row * MOST_ITEMS + i] = 0;
            }
        }

        int put(int row, int i, int v) {
            int kept = lanes[row] == 0 ? (byte) v : lanes[row] == 1 ? (short) v : v;
            items[row * MOST_ITEMS + i] = kept;
            return kept;
        }

        void carry(int a, int i, int b, int j, int n) {
            System.arraycopy(items, a * MOST_ITEMS + i, items, b * MOST_ITEMS + j, n);
        }

        /** Items go out as a copy, so that who looks at them need not know of rows. */
        void lend(int row, int i, int n) {
            System.arraycopy(items, row * MOST_ITEMS + i, lent, 0, n);
        }

        int forget(int row) {
            lanes[row] = MISSING;
            return sizes[row];
        }

        int howMany() {
            int n = 0;
            for (int row = 0; row < MOST_ROWS; row++) {
                if (!lacks(row)) {
                    n++;
                }
            }
            return n;
        }
    }

    /** The tape, and how it is read: token by token, up to the first that has a fault. */
    private static final class Tape {
        private static final int CANNOT_STAND = 1, NOT_AS_TOLD = 2, NO_ROOM = 3;
        private static final int END = -1;

        private final int[] bytes;
        int length;
        int fault;
        int place;
        private int at;
        private int number;
        private int width;

        Tape() {
            bytes = new int[MOST_BYTES];
        }

        boolean takeIn(int letter) {
            if (length >= MOST_BYTES) {
                return false;
            }
            bytes[length] = letter;
            length++;
            return true;
        }

        boolean readInto(Band to) {
            at = 0;
            to.clear();
            return readLaw(to) && readSong(to) && readPlayers(to) && readEars(to);
        }

        private boolean readLaw(Band to) {
            if (!takes('b') || !takesNumber(0, MOST_LAW)) {
                return false;
            }
            to.rush = number;
            if (!takes(',') || !takesNumber(0, MOST_LAW)) {
                return false;
            }
            to.drag = number;
            if (!takes(',') || !takesNumber(0, MOST_LAW)) {
                return false;
            }
            to.push = number;
            if (!takes(',') || !takesNumber(LEAST_TOLD, MOST_TOLD)) {
                return false;
            }
            to.clickTold = number;
            return takes(';');
        }

        private boolean readSong(Band to) {
            if (!takes('z')) {
                return false;
            }
            while (to.length < MOST_SONG && barOf(sign()) >= 0) {
                to.song[to.length] = barOf(sign());
                to.length++;
                at++;
            }
            if (to.length == 0) {
                return fails(CANNOT_STAND);
            }
            return barOf(sign()) >= 0 ? fails(NO_ROOM) : takes(';');
        }

        private boolean readPlayers(Band to) {
            for (int told = 0; told < MOST_PLAYERS && kindOf(sign()) != PLAYER; told++) {
                if (!readPlayer(to)) {
                    return false;
                }
            }
            if (to.players == 0) {
                return fails(CANNOT_STAND);
            }
            return kindOf(sign()) == PLAYER || fails(NO_ROOM);
        }

        private boolean readPlayer(Band to) {
            int one = to.players;
            to.kinds[one] = kindOf(sign());
            at++;
            if (!takesNumber(LEAST_TOLD, MOST_TOLD)) {
                return false;
            }
            to.paces[one] = TENTHS * number;
            if (!takes(',') || !takesNumber(0, MOST_HASTE)) {
                return false;
            }
            to.hastes[one] = number;
            to.players++;
            return takes(';');
        }

        private boolean readEars(Band to) {
            for (int told = 0; told < MOST_EARS && sign() == 'w'; told++) {
                if (!readEar(to)) {
                    return false;
                }
            }
            if (sign() == 'w') {
                return fails(NO_ROOM);
            }
            return sign() == END || fails(CANNOT_STAND);
        }

        private boolean readEar(Band to) {
            if (!takes('w') || !takesNumber(0, to.players - 1)) {
                return false;
            }
            int i = number;
            if (!takes(',') || !takesHeard(to, i)) {
                return false;
            }
            int j = number;
            if (!takes(',') || !takesNumber(1, MOST_WEIGHT)) {
                return false;
            }
            to.weigh(i, j, number);
            return takes(';');
        }

        private boolean takesHeard(Band to, int i) {
            if (!seesNumber()) {
                return fails(CANNOT_STAND);
            }
            if (!to.canHear(i, number) || to.weight(i, number) != 0) {
                return fails(NOT_AS_TOLD);
            }
            at += width;
            return true;
        }

        private boolean takesNumber(int least, int most) {
            if (!seesNumber()) {
                return fails(CANNOT_STAND);
            }
            if (!within(number, least, most)) {
                return fails(NOT_AS_TOLD);
            }
            at += width;
            return true;
        }

        /** A run of one or two figures is a number; a longer one is no token at all. */
        private boolean seesNumber() {
            number = 0;
            width = 0;
            while (width < 3 && isFigure(signAt(at + width))) {
                number = 10 * number + signAt(at + width) - '0';
                width++;
            }
            return width == 1 || width == 2;
        }

        private boolean takes(int letter) {
            if (sign() != letter) {
                return fails(CANNOT_STAND);
            }
            at++;
            return true;
        }

        private boolean fails(int number) {
            fault = number;
            place = at;
            return false;
        }

        private int sign() {
            return signAt(at);
        }

        private int signAt(int i) {
            return i >= 0 && i < length ? bytes[i] : END;
        }

        private static boolean isFigure(int sign) {
            return sign >= '0' && sign <= '9';
        }

        private static int barOf(int sign) {
            switch (sign) {
                case 'e':
                    return 0;
                case 'f':
                    return FILL;
                case 'q':
                    return QUIET;
                case 'c':
                    return CHORUS;
                case 'h':
                    return HELD;
                default:
                    return -1;
            }
        }

        /** PLAYER stands for no kind here: nobody is told as one. */
        private static int kindOf(int sign) {
            switch (sign) {
                case 't':
                    return STEADY;
                case 'r':
                    return RUSHER;
                case 'd':
                    return DRAGGER;
                case 'k':
                    return CLICKED;
                case 'l':
                    return LEADER;
                default:
                    return PLAYER;
            }
        }
    }

    /** A band with its song and law; without players there is none. */
    private static final class Band {
        /** How many cells an act may change: paces, weights, the click, the bar to come, bars gone. */
        static final int CHANGING = 33;

        private static final int WEIGHTS = 25, FROM_WEIGHTS = 5, FROM_REST = 30;

        int players;
        int length;
        int next;
        int gone;
        int rush;
        int drag;
        int push;
        int clickTold;
        final int[] kinds;
        final int[] hastes;
        final int[] paces;
        private final int[] fresh;
        private final int[] weights;
        final int[] song;

        Band() {
            kinds = new int[MOST_PLAYERS];
            hastes = new int[MOST_PLAYERS];
            paces = new int[MOST_PLAYERS];
            fresh = new int[MOST_PLAYERS];
            weights = new int[WEIGHTS];
            song = new int[MOST_SONG];
        }

        void clear() {
            players = 0;
            length = 0;
            next = 0;
            gone = 0;
            for (int e = 0; e < WEIGHTS; e++) {
                weights[e] = 0;
            }
        }

        void become(Band other) {
            players = other.players;
            length = other.length;
            next = other.next;
            gone = other.gone;
            rush = other.rush;
            drag = other.drag;
            push = other.push;
            clickTold = other.clickTold;
            System.arraycopy(other.kinds, 0, kinds, 0, MOST_PLAYERS);
            System.arraycopy(other.hastes, 0, hastes, 0, MOST_PLAYERS);
            System.arraycopy(other.paces, 0, paces, 0, MOST_PLAYERS);
            System.arraycopy(other.weights, 0, weights, 0, WEIGHTS);
            System.arraycopy(other.song, 0, song, 0, MOST_SONG);
        }

        void write(int[] cells, int at) {
            System.arraycopy(paces, 0, cells, at, MOST_PLAYERS);
            System.arraycopy(weights, 0, cells, at + FROM_WEIGHTS, WEIGHTS);
            cells[at + FROM_REST] = clickTold;
            cells[at + FROM_REST + 1] = next;
            cells[at + FROM_REST + 2] = gone;
        }

        void read(int[] cells, int at) {
            System.arraycopy(cells, at, paces, 0, MOST_PLAYERS);
            System.arraycopy(cells, at + FROM_WEIGHTS, weights, 0, WEIGHTS);
            clickTold = cells[at + FROM_REST];
            next = cells[at + FROM_REST + 1];
            gone = cells[at + FROM_REST + 2];
        }

        boolean stands() {
            return players > 0;
        }

        boolean has(int one) {
            return one >= 0 && one < players;
        }

        boolean canHear(int i, int j) {
            return has(i) && has(j) && i != j;
        }

        int weight(int i, int j) {
            return weights[MOST_PLAYERS * i + j];
        }

        void weigh(int i, int j, int w) {
            weights[MOST_PLAYERS * i + j] = w;
        }

        int heardBy(int one) {
            int n = 0;
            for (int j = 0; j < players; j++) {
                if (weight(one, j) != 0) {
                    n++;
                }
            }
            return n;
        }

        int barAt(int k) {
            return k >= 0 && k < length ? song[k] : 0;
        }

        int together() {
            if (players <= 0) {
                return 0;
            }
            int sum = 0;
            for (int p = 0; p < players; p++) {
                sum += paces[p];
            }
            return sum / players;
        }

        void quicken(int c) {
            for (int p = 0; p < players; p++) {
                paces[p] = bounded(paces[p] + c);
            }
        }

        int leanAt(int one, int bar) {
            int kind = kinds[one];
            if (kind != STEADY && kind != RUSHER && kind != DRAGGER) {
                return 0;
            }
            switch (bar) {
                case FILL:
                    return kind == RUSHER ? 2 * rush : rush;
                case QUIET:
                    return kind == DRAGGER ? -2 * drag : -drag;
                case CHORUS:
                    return push;
                default:
                    return 0;
            }
        }

        /** All paces are reckoned from those ahead of the bar, so none is changed before the last is known. */
        void play() {
            int bar = barAt(next);
            for (int p = 0; p < players; p++) {
                fresh[p] = paceBehind(p, bar);
            }
            System.arraycopy(fresh, 0, paces, 0, players);
            next = next + 1 < length ? next + 1 : 0;
            gone++;
        }

        private int paceBehind(int one, int bar) {
            int haste = bar == HELD ? 0 : hastes[one];
            int v = paces[one] + pull(one) / WEIGHT_PARTS + haste + leanAt(one, bar);
            return bounded(v + nearing(kinds[one], v));
        }

        private int pull(int one) {
            int own = paces[one];
            int sum = 0;
            for (int j = 0; j < players; j++) {
                sum += weights[MOST_PLAYERS * one + j] * (paces[j] - own);
            }
            return sum;
        }

        private int nearing(int kind, int v) {
            int half = (TENTHS * clickTold - v) / 2;
            return kind == CLICKED ? half : kind == LEADER ? half / 2 : 0;
        }
    }

    /** What the band was ahead of each act that can be undone, in a ring of which the oldest is written over. */
    private static final class Acts {
        private final int[] cells;
        private int oldest;
        int kept;

        Acts() {
            cells = new int[MOST_ACTS * Band.CHANGING];
        }

        void keep(Band band) {
            band.write(cells, (oldest + kept) % MOST_ACTS * Band.CHANGING);
            if (kept < MOST_ACTS) {
                kept++;
            } else {
                oldest = (oldest + 1) % MOST_ACTS;
            }
        }

        boolean takeBack(Band band) {
            if (kept <= 0) {
                return false;
            }
            kept--;
            band.read(cells, (oldest + kept) % MOST_ACTS * Band.CHANGING);
            return true;
        }

        void forget() {
            kept = 0;
        }
    }

    /** What is foretold, on bands of its own: the one that stands is never changed. Two answers go to first, second. */
    private static final class Seer {
        private static final int FACTOR = 16807, PRIME = 2147483647, DRAWS = 5, MIDDLE = 2;

        private final Band trial;
        private final Band other;
        private final int[] pastPaces;
        private final int[] pastNext;
        int first;
        int second;

        Seer() {
            trial = new Band();
            other = new Band();
            pastPaces = new int[(MOST_AHEAD + 1) * MOST_PLAYERS];
            pastNext = new int[MOST_AHEAD + 1];
        }

        Band behind(Band now, int n) {
            trial.become(now);
            for (int k = 0; k < n; k++) {
                trial.play();
            }
            return trial;
        }

        int driftOf(Band band) {
            return behind(band, band.length).together() - band.together();
        }

        boolean findRound(Band now) {
            trial.become(now);
            remember(0);
            for (int k = 1; k <= MOST_AHEAD; k++) {
                trial.play();
                for (int earlier = 0; earlier < k; earlier++) {
                    if (isAs(earlier)) {
                        first = k;
                        second = earlier;
                        return true;
                    }
                }
                remember(k);
            }
            return false;
        }

        private void remember(int k) {
            pastNext[k] = trial.next;
            System.arraycopy(trial.paces, 0, pastPaces, k * MOST_PLAYERS, MOST_PLAYERS);
        }

        private boolean isAs(int k) {
            if (pastNext[k] != trial.next) {
                return false;
            }
            for (int p = 0; p < trial.players; p++) {
                if (pastPaces[k * MOST_PLAYERS + p] != trial.paces[p]) {
                    return false;
                }
            }
            return true;
        }

        int firstNoticed(Band now, int n, int d) {
            trial.become(now);
            for (int k = 0; k < n; k++) {
                int was = trial.together();
                trial.play();
                if (Math.abs(trial.together() - was) > d) {
                    return k;
                }
            }
            return NONE;
        }

        /** The bits of dancers who fall out, and behind how many bars the last of them does. */
        void findFallen(Band now, int[] bears, int m, int n) {
            first = 0;
            second = NONE;
            trial.become(now);
            for (int k = 0; k <= n; k++) {
                if (k > 0) {
                    trial.play();
                }
                int fallen = fallenAt(trial.together(), bears, m);
                if ((fallen & ~first) != 0) {
                    first |= fallen;
                    second = k;
                }
            }
        }

        private static int fallenAt(int pace, int[] bears, int m) {
            int bits = 0;
            for (int who = 0; who < m; who++) {
                if (pace < bears[2 * who] || pace > bears[2 * who + 1]) {
                    bits |= 1 << who;
                }
            }
            return bits;
        }

        int bestCountIn(Band now, int n, int pace) {
            int best = NONE;
            int least = Integer.MAX_VALUE;
            for (int told = LEAST_TOLD; told <= MOST_TOLD; told++) {
                other.become(now);
                for (int p = 0; p < other.players; p++) {
                    other.paces[p] = TENTHS * told;
                }
                int away = Math.abs(behind(other, n).together() - pace);
                if (away < least) {
                    least = away;
                    best = TENTHS * told;
                }
            }
            return best;
        }

        void findDeaf(Band now) {
            first = NONE;
            second = NONE;
            for (int i = 0; i < now.players; i++) {
                for (int j = 0; j < now.players; j++) {
                    if (now.weight(i, j) != 0) {
                        other.become(now);
                        other.weigh(i, j, 0);
                        keepNearest(MOST_PLAYERS * i + j, driftOf(other));
                    }
                }
            }
        }

        void findInEar(Band now) {
            first = NONE;
            second = NONE;
            for (int p = 0; p < now.players; p++) {
                other.become(now);
                other.kinds[p] = CLICKED;
                keepNearest(p, driftOf(other));
            }
        }

        private void keepNearest(int which, int drift) {
            if (first == NONE || Math.abs(drift) < Math.abs(second)) {
                first = which;
                second = drift;
            }
        }

        int blameOf(Band now, int one) {
            other.become(now);
            other.hastes[one] = 0;
            if (isOf(other.kinds[one], STEADY)) {
                // a bare player plays as a steady one does, but never leans
                other.kinds[one] = PLAYER;
            }
            return driftOf(now) - driftOf(other);
        }

        int bestBack(Band now, int one, int d, int n, int pace) {
            int best = NONE;
            int least = Integer.MAX_VALUE;
            for (int k = 0; k < n; k++) {
                if (passesUnnoticed(now, one, d, n, k)) {
                    int away = Math.abs(trial.together() - pace);
                    if (away < least) {
                        least = away;
                        best = k;
                    }
                }
            }
            return best;
        }

        /** Leaves the trial band behind the n bars, if all of them pass. */
        private boolean passesUnnoticed(Band now, int one, int d, int n, int at) {
            trial.become(now);
            for (int k = 0; k < n; k++) {
                int was = trial.together();
                if (k == at) {
                    trial.paces[one] = bounded(trial.paces[one] - d);
                }
                trial.play();
                if (Math.abs(trial.together() - was) > UNNOTICED) {
                    return false;
                }
            }
            return true;
        }

        int gainOfClaps(Band now, int c, int n) {
            other.become(now);
            other.quicken(c);
            int with = behind(other, n).together();
            return with - behind(now, n).together();
        }

        /** The bits of players whose haste could have made it so, and by how much more the first of them. */
        void findPushers(Band now, int[] paces) {
            first = 0;
            second = NONE;
            for (int p = 0; p < now.players; p++) {
                int more = leastPush(now, p, paces);
                if (more != NONE) {
                    first |= 1 << p;
                    if (second == NONE) {
                        second = more;
                    }
                }
            }
        }

        private int leastPush(Band now, int one, int[] paces) {
            for (int more = 1; more <= MOST_PUSH; more++) {
                trial.become(now);
                trial.hastes[one] += more;
                trial.play();
                if (hasPaces(paces)) {
                    return more;
                }
            }
            return NONE;
        }

        private boolean hasPaces(int[] paces) {
            for (int p = 0; p < trial.players; p++) {
                if (trial.paces[p] != paces[p]) {
                    return false;
                }
            }
            return true;
        }

        /** The pace behind a night, and how many of its bars somebody could notice. */
        void findNight(Band now, int n, int seed) {
            trial.become(now);
            long x = seed;
            second = 0;
            for (int k = 0; k < n; k++) {
                int was = trial.together();
                for (int p = 0; p < trial.players; p++) {
                    x = x * FACTOR % PRIME;
                    trial.paces[p] = bounded(trial.paces[p] + (int) (x % DRAWS) - MIDDLE);
                }
                trial.play();
                if (Math.abs(trial.together() - was) > UNNOTICED) {
                    second++;
                }
            }
            first = trial.together();
        }
    }

    /** Orders of songs, gone through as a dictionary would, so that the first of several stays. */
    private static final class Orders {
        private final int[] order;
        final int[] best;
        int least;

        Orders() {
            order = new int[MOST_SONGS];
            best = new int[MOST_SONGS];
        }

        void findLeast(int[] paces, int n) {
            for (int s = 0; s < n; s++) {
                order[s] = s;
            }
            least = Integer.MAX_VALUE;
            boolean more = true;
            for (int t = 0; t < MOST_ORDERS && more; t++) {
                int sum = changes(paces, n);
                if (sum < least) {
                    least = sum;
                    System.arraycopy(order, 0, best, 0, n);
                }
                more = step(n);
            }
        }

        private int changes(int[] paces, int n) {
            int sum = 0;
            for (int s = 1; s < n; s++) {
                sum += Math.abs(paces[order[s]] - paces[order[s - 1]]);
            }
            return sum;
        }

        /** The next order; false behind the last one. */
        private boolean step(int n) {
            int i = n - 2;
            while (i >= 0 && order[i] > order[i + 1]) {
                i--;
            }
            if (i < 0) {
                return false;
            }
            int j = n - 1;
            while (j > i && order[j] < order[i]) {
                j--;
            }
            swap(i, j);
            for (int a = i + 1, b = n - 1; a < b; a++, b--) {
                swap(a, b);
            }
            return true;
        }

        private void swap(int a, int b) {
            int kept = order[a];
            order[a] = order[b];
            order[b] = kept;
        }
    }

    /** Asks of one player, by bodies that leave their numbers; a body may run others. */
    private static final class Asks {
        private static final int[] SIZE_BODIES = {10, 11, 12, 11, 13, 14};
        private static final int[] MARK_BODIES = {20, 21, 24, 22, 23, 23};

        final int[] numbers;
        int traced;
        private int one;
        private int sort;
        private int quickness;
        private int haste;

        Asks() {
            numbers = new int[MOST_TRACE];
        }

        int answer(Band band, int asked, int what) {
            traced = 0;
            one = asked;
            sort = band.kinds[asked];
            quickness = band.paces[asked];
            haste = band.hastes[asked];
            return run(what == 0 ? sizeBody() : markBody(), 0);
        }

        private int sizeBody() {
            return within(sort, 0, KINDS - 1) ? SIZE_BODIES[sort] : 10;
        }

        private int markBody() {
            return within(sort, 0, KINDS - 1) ? MARK_BODIES[sort] : 20;
        }

        /** No chain of bodies goes deeper than the trace is long; the guard only makes that plain. */
        private int run(int body, int depth) {
            if (depth >= MOST_TRACE) {
                return 0;
            }
            leave(body);
            switch (body) {
                case 10:
                    return quickness;
                case 11:
                    return run(10, depth + 1) + run(markBody(), depth + 1);
                case 12:
                    return -run(11, depth + 1);
                case 13:
                    return run(10, depth + 1) - 100;
                case 14:
                    return 2 * run(13, depth + 1);
                case 20:
                    return one;
                case 21:
                    return run(20, depth + 1) + haste;
                case 22:
                    return run(21, depth + 1) - 1000;
                case 23:
                    return run(20, depth + 1) - run(sizeBody(), depth + 1);
                case 24:
                    return 2 * run(21, depth + 1);
                default:
                    return 0;
            }
        }

        private void leave(int number) {
            if (traced < MOST_TRACE) {
                numbers[traced] = number;
                traced++;
            }
        }
    }
}
