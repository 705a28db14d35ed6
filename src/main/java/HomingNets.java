import java.util.Arrays;

/** Nets that right themselves; ../shared/DOC.md numbers what each call promises. */
public final class HomingNets {
    public static final int BAD = -1, NO = -2, FULL = -3, NONE = -4, EVER = -5;

    private static final int COUNTERS = 1, POINTERS = 2, DISTANCES = 3, COLOURS = 4;
    private static final int LOWEST = 0, RING = 1, TOGETHER = 2, DRAWN = 3, CRUEL = 4;
    private static final int MOST_MACHINES = 6, MOST_RANGE = 7, MOST_STATES = 4096;
    private static final int MOST_LETTERS = 200, MOST_UNDONE = 6;
    private static final int MOST_Z = 9999, MOST_STEPS = 300, MOST_TIMES = 200;
    private static final String FIRST_TEXT = "g145;x03;x11;x24;x32;";

    private final Text text;
    private final Net net;
    private final Net draft;
    private final Survey survey;
    private final Past past;
    private int now;
    private int lastInRing;

    public HomingNets() {
        text = new Text();
        net = new Net();
        draft = new Net();
        survey = new Survey();
        past = new Past();
        for (int k = 0; k < FIRST_TEXT.length(); k++) {
            text.append(FIRST_TEXT.charAt(k));
        }
        text.readInto(draft);
        takeDraft();
        text.clear();
    }

    // ---- told

    public int write(int letter) {
        if (letter < 32 || letter > 126) {
            return BAD;
        }
        return text.append(letter) ? text.length() : FULL;
    }

    public int wipe() {
        int was = text.length();
        text.clear();
        return was;
    }

    public int fault() {
        return text.readInto(draft);
    }

    public int lay() {
        if (text.length() == 0 || text.readInto(draft) != NONE || !draft.hasColoursEnough()) {
            return NO;
        }
        takeDraft();
        return net.states;
    }

    private void takeDraft() {
        net.copyFrom(draft);
        now = net.start;
        lastInRing = NONE;
        past.clear();
        survey.forget();
    }

    // ---- the net

    public int value(int i) {
        return net.hasMachine(i) ? net.valueAt(now, i) : BAD;
    }

    public int hit(int i, int v) {
        if (!net.hasMachine(i) || !net.hasValue(v)) {
            return BAD;
        }
        int was = net.valueAt(now, i);
        if (was == v) {
            return NO;
        }
        change(net.withValue(now, i, v));
        return was;
    }

    public int code() {
        return now;
    }

    public int turn(int code) {
        if (!net.hasState(code)) {
            return BAD;
        }
        int was = now;
        if (was == code) {
            return NO;
        }
        change(code);
        return was;
    }

    public int wired(int a, int b) {
        if (!net.hasMachine(a) || !net.hasMachine(b) || a == b) {
            return BAD;
        }
        return net.sees(a, b) || net.sees(b, a) ? 1 : 0;
    }

    public int may(int i) {
        return net.hasMachine(i) ? net.ruleOf(now, i) : BAD;
    }

    public int becomes(int i) {
        if (!net.hasMachine(i)) {
            return BAD;
        }
        return net.ruleOf(now, i) == 0 ? NONE : net.wants(now, i);
    }

    public int move(int i) {
        if (!net.hasMachine(i)) {
            return BAD;
        }
        if (net.ruleOf(now, i) == 0) {
            return NO;
        }
        int then = net.wants(now, i);
        change(net.withValue(now, i, then));
        return then;
    }

    public int tokens() {
        return net.whoMay(now);
    }

    public int legal() {
        return net.isLegal(now) ? 1 : 0;
    }

    public int mate(int i) {
        if (!net.hasMachine(i)) {
            return BAD;
        }
        if (net.kind == POINTERS) {
            return net.matchOf(now, i);
        }
        return net.kind == DISTANCES ? net.parentOf(now, i) : NO;
    }

    public int undo() {
        if (past.size() == 0) {
            return NO;
        }
        now = past.lastState();
        lastInRing = past.lastMover();
        past.drop();
        return past.size();
    }

    private void change(int code) {
        past.keep(now, lastInRing);
        now = code;
    }

    // ---- runs

    public int run(int daemon, int z, int n) {
        if (daemon < LOWEST || daemon > CRUEL || z < 0 || z > MOST_Z || n < 1 || n > MOST_STEPS) {
            return BAD;
        }
        if (daemon == CRUEL) {
            survey.make(net);
        }
        int state = now;
        int last = lastInRing;
        int steps = 0;
        for (int k = 0; k < n && !net.isLegal(state) && net.whoMay(state) != 0; k++) {
            int movers = moversOf(daemon, state, last, drawOf(z, k));
            last = lastBehind(daemon, last, movers);
            state = net.moved(state, movers);
            steps++;
        }
        if (steps > 0) {
            change(state);
            lastInRing = last;
        }
        return steps;
    }

    public int next(int daemon) {
        if (daemon < LOWEST || daemon > CRUEL || daemon == DRAWN) {
            return BAD;
        }
        if (daemon == CRUEL) {
            survey.make(net);
        }
        return moversOf(daemon, now, lastInRing, 0);
    }

    public int loop(int daemon, int what) {
        if ((daemon != LOWEST && daemon != TOGETHER && daemon != CRUEL) || what < 0 || what > 1) {
            return BAD;
        }
        if (daemon == CRUEL) {
            survey.make(net);
        }
        int[] step = survey.clearedSpare();
        int state = now;
        // Among one step more than there are states, one state must come again.
        for (int k = 0; k <= net.states; k++) {
            int met = Rows.at(step, state);
            if (met >= 0) {
                return what == 0 ? met : k - met;
            }
            Rows.put(step, state, k);
            state = net.moved(state, moversOf(daemon, state, NONE, 0));
        }
        return BAD;
    }

    public int storm(int daemon, int z, int n, int what) {
        if (daemon < LOWEST || daemon > TOGETHER || z < 0 || z > MOST_Z
                || n < 1 || n > MOST_TIMES || what < 0 || what > 2) {
            return BAD;
        }
        int state = now;
        int last = lastInRing;
        int legalTimes = 0;
        int row = 0;
        int longestRow = 0;
        for (int k = 0; k < n; k++) {
            int draw = drawOf(z, k);
            if (draw % 8 == 0) {
                state = net.struck(state, draw);
            } else {
                int movers = moversOf(daemon, state, last, draw);
                last = lastBehind(daemon, last, movers);
                state = net.moved(state, movers);
            }
            boolean fine = net.isLegal(state);
            legalTimes += fine ? 1 : 0;
            row = fine ? 0 : row + 1;
            longestRow = Math.max(longestRow, row);
        }
        if (what == 0) {
            return legalTimes;
        }
        return what == 1 ? state : longestRow;
    }

    private static int drawOf(int z, int k) {
        long x = 7919L * z + 6151L * k + 1;
        return (int) (x * x % 65521);
    }

    /** The machines that a daemon lets move in a state, as bits; 0 where nobody may. */
    private int moversOf(int daemon, int state, int last, int draw) {
        int tokens = net.whoMay(state);
        switch (daemon) {
            case LOWEST:
                return Bits.lowest(tokens);
            case RING:
                return Bits.nextInRing(tokens, last, net.machines);
            case TOGETHER:
                return tokens;
            case DRAWN:
                return Bits.drawn(tokens, draw);
            default:
                return cruellest(state, tokens);
        }
    }

    /** Asks the survey, which whoever calls this has made. */
    private int cruellest(int state, int tokens) {
        int chosen = 0;
        int most = -1;
        for (int i = 0; i < net.machines; i++) {
            if (Bits.has(tokens, i)) {
                int cost = Survey.rankOf(survey.worstOf(survey.behind(net, state, i)));
                if (cost > most) {
                    most = cost;
                    chosen = 1 << i;
                }
            }
        }
        return chosen;
    }

    private static int lastBehind(int daemon, int last, int movers) {
        return daemon == RING && movers != 0 ? Bits.indexOf(movers) : last;
    }

    // ---- all states

    public int state(int code, int what) {
        if (!net.hasState(code) || what < 0 || what > 3) {
            return BAD;
        }
        if (what == 3) {
            return net.isLegal(code) ? 1 : 0;
        }
        survey.make(net);
        if (what == 2) {
            return survey.hitsOf(code);
        }
        return what == 0 ? survey.worstOf(code) : survey.bestOf(code);
    }

    public int all(int what) {
        if (what < 0 || what > 6) {
            return BAD;
        }
        survey.make(net);
        switch (what) {
            case 0:
                return survey.legalStates();
            case 1:
                return survey.endlessStates();
            case 2:
                return survey.greatestWorst();
            case 3:
                return survey.lowestOfGreatestWorst();
            case 4:
                return survey.movesOutOfLegal(net);
            case 5:
                return survey.sumOfWorsts();
            default:
                return survey.greatestBest();
        }
    }

    public int within(int k, int what) {
        if (k < 0 || k > net.machines || what < 0 || what > 1) {
            return BAD;
        }
        survey.make(net);
        int many = survey.statesWithin(k);
        if (many == 0) {
            return NONE;
        }
        return what == 0 ? survey.greatestWorstWithin(k) : many;
    }

    public int count(int what) {
        switch (what) {
            case 0:
                return net.kind;
            case 1:
                return net.machines;
            case 2:
                return net.range;
            case 3:
                return net.wires;
            case 4:
                return net.states;
            case 5:
                return past.size();
            case 6:
                return text.length();
            case 7:
                return lastInRing;
            default:
                return BAD;
        }
    }

    /** Rows of numbers, read and written only where they have a place. */
    static final class Rows {
        static int at(int[] row, int i) {
            return i >= 0 && i < row.length ? row[i] : 0;
        }

        static void put(int[] row, int i, int x) {
            if (i >= 0 && i < row.length) {
                row[i] = x;
            }
        }
    }

    /** Machines as bits, and how the daemons choose one of them. */
    static final class Bits {
        static boolean has(int bits, int i) {
            return (bits >> i & 1) == 1;
        }

        static int lowest(int bits) {
            return bits & -bits;
        }

        static int indexOf(int bits) {
            return Integer.bitCount(lowest(bits) - 1);
        }

        static int nextInRing(int bits, int last, int machines) {
            if (last < 0) {
                return lowest(bits);
            }
            int behind = (bits >> (last + 1)) << (last + 1);
            return last < machines && behind != 0 ? lowest(behind) : lowest(bits);
        }

        static int drawn(int bits, int draw) {
            int many = Integer.bitCount(bits);
            if (many == 0) {
                return 0;
            }
            int rest = bits;
            for (int ahead = draw % many; ahead > 0; ahead--) {
                rest -= lowest(rest);
            }
            return lowest(rest);
        }
    }

    /** A net and its rules; a state is known by its code alone. */
    static final class Net {
        int kind;
        int machines;
        int range;
        int states;
        int wires;
        int start;
        private final int[] linked = new int[MOST_MACHINES];
        private final int[] weight = new int[MOST_MACHINES];

        /** Begins a net without wires, all values 0; false: there is no such net. */
        boolean begin(int newKind, int newMachines, int newRange) {
            if (newKind < COUNTERS || newKind > COLOURS || newMachines < 2 || newMachines > MOST_MACHINES
                    || newRange < 2 || newRange > MOST_RANGE) {
                return false;
            }
            if ((newKind == POINTERS && newRange != newMachines + 1)
                    || (newKind == DISTANCES && newRange < newMachines)) {
                return false;
            }
            int power = 1;
            for (int i = 0; i < newMachines; i++) {
                Rows.put(linked, i, 0);
                Rows.put(weight, i, power);
                power *= newRange;
            }
            kind = newKind;
            machines = newMachines;
            range = newRange;
            states = power;
            wires = 0;
            start = 0;
            return power <= MOST_STATES;
        }

        boolean addWire(int a, int b) {
            if (kind == COUNTERS || !hasMachine(a) || !hasMachine(b) || a == b || isLinked(a, b)) {
                return false;
            }
            Rows.put(linked, a, Rows.at(linked, a) | 1 << b);
            Rows.put(linked, b, Rows.at(linked, b) | 1 << a);
            wires++;
            return true;
        }

        boolean startWith(int i, int v) {
            if (!hasMachine(i) || !hasValue(v)) {
                return false;
            }
            start = withValue(start, i, v);
            return true;
        }

        boolean hasColoursEnough() {
            for (int i = 0; kind == COLOURS && i < machines; i++) {
                if (Integer.bitCount(Rows.at(linked, i)) >= range) {
                    return false;
                }
            }
            return true;
        }

        void copyFrom(Net other) {
            kind = other.kind;
            machines = other.machines;
            range = other.range;
            states = other.states;
            wires = other.wires;
            start = other.start;
            for (int i = 0; i < MOST_MACHINES; i++) {
                Rows.put(linked, i, Rows.at(other.linked, i));
                Rows.put(weight, i, Rows.at(other.weight, i));
            }
        }

        boolean hasMachine(int i) {
            return i >= 0 && i < machines;
        }

        boolean hasValue(int v) {
            return v >= 0 && v < range;
        }

        boolean hasState(int code) {
            return code >= 0 && code < states;
        }

        int valueAt(int code, int i) {
            if (i < 0 || i >= weight.length || weight[i] <= 0 || range <= 0) {
                return 0;
            }
            return code / weight[i] % range;
        }

        int withValue(int code, int i, int v) {
            return code + (v - valueAt(code, i)) * Rows.at(weight, i);
        }

        private boolean isLinked(int a, int b) {
            return a >= 0 && a < linked.length && (linked[a] >> b & 1) == 1;
        }

        private int aheadOf(int i) {
            return i == 0 ? machines - 1 : i - 1;
        }

        boolean sees(int a, int b) {
            return kind == COUNTERS ? aheadOf(a) == b : isLinked(a, b);
        }

        /** The value behind the machine's move; its own one, if it may not move. */
        int wants(int code, int i) {
            switch (kind) {
                case COUNTERS:
                    return counterWants(code, i);
                case POINTERS:
                    return pointerWants(code, i);
                case DISTANCES:
                    return distanceWants(code, i);
                default:
                    return colourWants(code, i);
            }
        }

        private int counterWants(int code, int i) {
            int ahead = valueAt(code, aheadOf(i));
            if (i != 0) {
                return ahead;
            }
            int own = valueAt(code, i);
            if (own != ahead) {
                return own;
            }
            return own + 1 < range ? own + 1 : 0;
        }

        private int pointerWants(int code, int i) {
            int own = valueAt(code, i);
            if (own == 0) {
                int suitor = lowestLinkedWith(code, i, i + 1);
                int chosen = suitor != NONE ? suitor : lowestLinkedWith(code, i, 0);
                return chosen != NONE ? chosen + 1 : own;
            }
            if (!isLinked(i, own - 1)) {
                return 0;
            }
            int theirs = valueAt(code, own - 1);
            return theirs == 0 || theirs == i + 1 ? own : 0;
        }

        private int distanceWants(int code, int i) {
            if (i == 0) {
                return 0;
            }
            int wanted = range - 1;
            for (int j = 0; j < machines; j++) {
                if (isLinked(i, j)) {
                    wanted = Math.min(wanted, valueAt(code, j) + 1);
                }
            }
            return wanted;
        }

        private int colourWants(int code, int i) {
            int taken = 0;
            for (int j = 0; j < machines; j++) {
                if (isLinked(i, j)) {
                    taken |= 1 << valueAt(code, j);
                }
            }
            int own = valueAt(code, i);
            return Bits.has(taken, own) ? Bits.indexOf(~taken) : own;
        }

        private int lowestLinkedWith(int code, int i, int v) {
            for (int j = 0; j < machines; j++) {
                if (isLinked(i, j) && valueAt(code, j) == v) {
                    return j;
                }
            }
            return NONE;
        }

        int ruleOf(int code, int i) {
            int own = valueAt(code, i);
            int then = wants(code, i);
            if (then == own) {
                return 0;
            }
            if (kind != POINTERS) {
                return 1;
            }
            if (own != 0) {
                return 3;
            }
            return valueAt(code, then - 1) == i + 1 ? 1 : 2;
        }

        int whoMay(int code) {
            int bits = 0;
            for (int i = 0; i < machines; i++) {
                if (wants(code, i) != valueAt(code, i)) {
                    bits |= 1 << i;
                }
            }
            return bits;
        }

        boolean isLegal(int code) {
            int tokens = whoMay(code);
            return kind == COUNTERS ? Integer.bitCount(tokens) == 1 : tokens == 0;
        }

        /** The state behind a move of these at once, each by the state ahead. */
        int moved(int code, int movers) {
            int behind = code;
            for (int i = 0; i < machines; i++) {
                if (Bits.has(movers, i)) {
                    behind = withValue(behind, i, wants(code, i));
                }
            }
            return behind;
        }

        int struck(int code, int draw) {
            if (machines <= 0 || range <= 0) {
                return code;
            }
            return withValue(code, draw / 8 % machines, draw / 64 % range);
        }

        int matchOf(int code, int i) {
            int other = valueAt(code, i) - 1;
            boolean matched = hasMachine(other) && isLinked(i, other) && valueAt(code, other) == i + 1;
            return matched ? other : NONE;
        }

        int parentOf(int code, int i) {
            return lowestLinkedWith(code, i, valueAt(code, i) - 1);
        }
    }

    /** The letters that were told, and what they tell. */
    static final class Text {
        private final int[] letters = new int[MOST_LETTERS];
        private int many;

        int length() {
            return many;
        }

        void clear() {
            many = 0;
        }

        boolean append(int letter) {
            if (many >= MOST_LETTERS) {
                return false;
            }
            Rows.put(letters, many, letter);
            many++;
            return true;
        }

        /** Tells the net all items; the place of the first item that is not so, or NONE. */
        int readInto(Net net) {
            int place = 0;
            for (int items = 0; items < MOST_LETTERS && place < many; items++) {
                if (!readItem(place, net)) {
                    return place;
                }
                place += letterAt(place) == 'g' ? 5 : 4;
            }
            return NONE;
        }

        private boolean readItem(int place, Net net) {
            int first = figureAt(place + 1);
            int second = figureAt(place + 2);
            int letter = letterAt(place);
            if (letter == 'g') {
                return place == 0 && letterAt(place + 4) == ';'
                        && net.begin(first, second, figureAt(place + 3));
            }
            if (place == 0 || letterAt(place + 3) != ';') {
                return false;
            }
            if (letter == 'e') {
                return net.addWire(first, second);
            }
            return letter == 'x' && net.startWith(first, second);
        }

        private int letterAt(int place) {
            return place >= 0 && place < many ? Rows.at(letters, place) : 0;
        }

        private int figureAt(int place) {
            int letter = letterAt(place);
            return letter >= '0' && letter <= '9' ? letter - '0' : -1;
        }
    }

    /** What the latest changes changed, the oldest first. */
    static final class Past {
        private final int[] states = new int[MOST_UNDONE];
        private final int[] movers = new int[MOST_UNDONE];
        private int many;

        int size() {
            return many;
        }

        void clear() {
            many = 0;
        }

        void keep(int state, int mover) {
            if (many >= MOST_UNDONE) {
                forgetOldest();
            }
            Rows.put(states, many, state);
            Rows.put(movers, many, mover);
            many++;
        }

        private void forgetOldest() {
            for (int k = 1; k < many; k++) {
                Rows.put(states, k - 1, Rows.at(states, k));
                Rows.put(movers, k - 1, Rows.at(movers, k));
            }
            many--;
        }

        int lastState() {
            return Rows.at(states, many - 1);
        }

        int lastMover() {
            return Rows.at(movers, many - 1);
        }

        void drop() {
            if (many > 0) {
                many--;
            }
        }
    }

    /** What is true of all states of one net. */
    static final class Survey {
        private static final int ALL_MOVES = 0, SOME_MOVE = 1, ANY_HIT = 2;

        private boolean made;
        private int states;
        // Six values of three bits each: one number a state instead of a row, which keeps the room small.
        private final int[] wanted = new int[MOST_STATES];
        private final int[] movesLeft = new int[MOST_STATES];
        private final int[] worst = new int[MOST_STATES];
        private final int[] best = new int[MOST_STATES];
        private final int[] hits = new int[MOST_STATES];
        private final int[] spare = new int[MOST_STATES];

        void forget() {
            made = false;
        }

        // The tables cost most of all, so they are made when first asked for and kept till another net is laid.
        void make(Net net) {
            if (made) {
                return;
            }
            made = true;
            states = Math.min(net.states, MOST_STATES);
            for (int code = 0; code < states; code++) {
                noteMoves(net, code);
            }
            spread(net, worst, ALL_MOVES);
            spread(net, best, SOME_MOVE);
            spread(net, hits, ANY_HIT);
        }

        private void noteMoves(Net net, int code) {
            int packed = 0;
            int many = 0;
            for (int i = 0; i < net.machines; i++) {
                int then = net.wants(code, i);
                packed |= then << 3 * i;
                many += then != net.valueAt(code, i) ? 1 : 0;
            }
            Rows.put(wanted, code, packed);
            Rows.put(movesLeft, code, many);
            boolean fine = many == (net.kind == COUNTERS ? 1 : 0);
            Rows.put(worst, code, fine ? 0 : EVER);
            Rows.put(best, code, fine ? 0 : EVER);
            Rows.put(hits, code, fine ? 0 : NONE);
        }

        /** Goes from the legal states (depth 0) outwards, against the moves; who is not reached stays as it is. */
        private void spread(Net net, int[] depth, int way) {
            int tail = 0;
            for (int code = 0; code < states; code++) {
                if (Rows.at(depth, code) == 0) {
                    Rows.put(spare, tail, code);
                    tail++;
                }
            }
            for (int head = 0; head < tail && head < MOST_STATES; head++) {
                int code = Rows.at(spare, head);
                for (int i = 0; i < net.machines; i++) {
                    tail = spreadBy(net, depth, way, code, i, tail);
                }
            }
        }

        private int spreadBy(Net net, int[] depth, int way, int code, int i, int tail) {
            int grown = tail;
            int deeper = Rows.at(depth, code) + 1;
            int own = net.valueAt(code, i);
            for (int v = 0; v < net.range; v++) {
                int other = net.withValue(code, i, v);
                if (v != own && Rows.at(depth, other) < 0 && reaches(way, other, i, own)) {
                    Rows.put(depth, other, deeper);
                    Rows.put(spare, grown, other);
                    grown++;
                }
            }
            return grown;
        }

        // States come in the order of their depth, so the last move that is struck off is the longest way.
        private boolean reaches(int way, int from, int i, int v) {
            if (way == ANY_HIT) {
                return true;
            }
            if (wantedBy(from, i) != v) {
                return false;
            }
            if (way == SOME_MOVE) {
                return true;
            }
            int left = Rows.at(movesLeft, from) - 1;
            Rows.put(movesLeft, from, left);
            return left == 0;
        }

        /** A row that only the making of the survey uses besides; all its places hold -1. */
        int[] clearedSpare() {
            Arrays.fill(spare, -1);
            return spare;
        }

        private int wantedBy(int code, int i) {
            return Rows.at(wanted, code) >> 3 * i & 7;
        }

        int behind(Net net, int code, int i) {
            return net.withValue(code, i, wantedBy(code, i));
        }

        /** For comparing: EVER is more than all. */
        static int rankOf(int worst) {
            return worst == EVER ? Integer.MAX_VALUE : worst;
        }

        int worstOf(int code) {
            return Rows.at(worst, code);
        }

        int bestOf(int code) {
            return Rows.at(best, code);
        }

        int hitsOf(int code) {
            return Rows.at(hits, code);
        }

        int legalStates() {
            return countOf(worst, 0);
        }

        int endlessStates() {
            return countOf(worst, EVER);
        }

        private int countOf(int[] row, int x) {
            int many = 0;
            for (int code = 0; code < states; code++) {
                many += Rows.at(row, code) == x ? 1 : 0;
            }
            return many;
        }

        int greatestWorst() {
            return greatestOf(worst);
        }

        int greatestBest() {
            return greatestOf(best);
        }

        private int greatestOf(int[] row) {
            int most = -1;
            for (int code = 0; code < states; code++) {
                most = Math.max(most, Rows.at(row, code));
            }
            return most < 0 ? NONE : most;
        }

        int lowestOfGreatestWorst() {
            int most = greatestWorst();
            for (int code = 0; most != NONE && code < states; code++) {
                if (worstOf(code) == most) {
                    return code;
                }
            }
            return NONE;
        }

        int sumOfWorsts() {
            int sum = 0;
            for (int code = 0; code < states; code++) {
                sum += Math.max(0, worstOf(code));
            }
            return sum;
        }

        int movesOutOfLegal(Net net) {
            int many = 0;
            for (int code = 0; code < states; code++) {
                if (worstOf(code) == 0) {
                    many += movesOutOf(net, code);
                }
            }
            return many;
        }

        private int movesOutOf(Net net, int code) {
            int many = 0;
            for (int i = 0; i < net.machines; i++) {
                many += worstOf(behind(net, code, i)) != 0 ? 1 : 0;
            }
            return many;
        }

        int statesWithin(int k) {
            int many = 0;
            for (int code = 0; code < states; code++) {
                many += isWithin(code, k) ? 1 : 0;
            }
            return many;
        }

        int greatestWorstWithin(int k) {
            int most = 0;
            for (int code = 0; code < states; code++) {
                if (isWithin(code, k)) {
                    most = Math.max(most, rankOf(worstOf(code)));
                }
            }
            return most == Integer.MAX_VALUE ? EVER : most;
        }

        private boolean isWithin(int code, int k) {
            return hitsOf(code) >= 0 && hitsOf(code) <= k;
        }
    }
}
