import java.util.Arrays;

/** Gates over a few wires, each of which can be run back. ../shared/DOC.md has the promises. */
public final class MirrorWires {
    public static final int BAD = -1, NOT = -2, FULL = -3, NONE = -4, NULL = -11, CAST = -12, INDEX = -13, SIZE = -14;

    private static final int FEWEST_WIRES = 2, MOST_WIRES = 6, MOST_GATES = 16, MOST_STATES = 64;
    private static final int MOST_LETTERS = 110, FIRST_FAULT = -20;
    private static final int MOST_UNDONE = 8, MOST_STEPS = 16, MOST_DRIFT = 40;
    private static final int MOST_RUNS = 2000000000, MOST_UPS = 200;
    private static final int SHEETS = 4, LANES = 4, MOST_ITEMS = 24, MOST_CAME = 8;
    private static final int DEATHS = -1, UPS = -2;

    private final Foretold foretold = new Foretold();
    private final Board now = foretold.board;
    private final Past past = new Past();
    private final Board imageNow = new Board();
    private final Past imagePast = new Past();
    private boolean hasImage;
    private final Tape tape = new Tape();
    private final Board draft = new Board();
    private final Sheet[] sheets = new Sheet[SHEETS];

    public MirrorWires() {
        for (int s = 0; s < SHEETS; s++) {
            sheets[s] = new Sheet();
        }
    }

    // ---- 1 wires, gates

    public int wires(int n) {
        if (n < FEWEST_WIRES || n > MOST_WIRES) {
            return BAD;
        }
        int before = now.wires;
        now.clear(n);
        past.forget();
        return before;
    }

    public int gate(int kind, int a, int b, int c) {
        if (!Gate.mayLie(kind, a, b, c, now.wires)) {
            return BAD;
        }
        if (now.count >= MOST_GATES) {
            return FULL;
        }
        now.add(Gate.pack(kind, a, b, c));
        past.forget();
        return now.count - 1;
    }

    public int of(int gate, int what) {
        if (!isGate(gate) || what < 0 || what > 4) {
            return BAD;
        }
        int it = now.gates[gate];
        if (what == 0) {
            return Gate.kindOf(it);
        }
        if (what == 4) {
            return Gate.isDead(it) ? 1 : 0;
        }
        return Gate.wireAt(it, what - 1);
    }

    public int does(int gate, int state) {
        if (!isGate(gate) || !isState(state)) {
            return BAD;
        }
        return Gate.act(now.gates[gate], state);
    }

    public int type(int letter) {
        if (letter < 32 || letter > 126) {
            return BAD;
        }
        return tape.add((char) letter) ? tape.length : FULL;
    }

    public int circuit() {
        boolean read = tape.readInto(draft);
        tape.length = 0;
        if (!read) {
            return FIRST_FAULT - tape.at;
        }
        draft.draw = now.draw;
        now.becomes(draft);
        past.forget();
        return now.count;
    }

    public int count(int what) {
        switch (what) {
            case 0: return now.wires;
            case 1: return now.count;
            case 2: return now.bits;
            case 3: return now.place;
            case 4: return now.deadOnes();
            case 5: return Integer.bitCount(now.bits);
            case 6: return past.known;
            default: return BAD;
        }
    }

    // ---- what is done

    public int step(int n) {
        if (n < 1 || n > MOST_STEPS) {
            return BAD;
        }
        if (n > now.count - now.place) {
            return NOT;
        }
        for (int s = 0; s < n; s++) {
            past.keep(now);
            now.stepOn();
        }
        return now.bits;
    }

    public int back(int n) {
        if (n < 1 || n > MOST_STEPS) {
            return BAD;
        }
        if (n > now.place) {
            return NOT;
        }
        for (int s = 0; s < n; s++) {
            past.keep(now);
            now.stepBack();
        }
        return now.bits;
    }

    public int home() {
        if (now.place == 0) {
            return NOT;
        }
        int before = now.place;
        past.keep(now);
        now.place = 0;
        return before;
    }

    public int flip(int wire) {
        if (!isWire(wire)) {
            return BAD;
        }
        past.keep(now);
        now.turnOver(wire);
        return now.bits;
    }

    public int kill(int gate) {
        if (!isGate(gate)) {
            return BAD;
        }
        if (Gate.isDead(now.gates[gate])) {
            return NOT;
        }
        past.keep(now);
        now.gates[gate] = Gate.killed(now.gates[gate]);
        return now.deadOnes();
    }

    public int heal(int gate) {
        if (!isGate(gate)) {
            return BAD;
        }
        if (!Gate.isDead(now.gates[gate])) {
            return NOT;
        }
        past.keep(now);
        now.gates[gate] = Gate.healed(now.gates[gate]);
        return now.deadOnes();
    }

    public int move(int gate, int other) {
        if (!areTwoGates(gate, other)) {
            return BAD;
        }
        past.keep(now);
        int moved = now.gates[gate];
        now.gates[gate] = now.gates[other];
        now.gates[other] = moved;
        return 1;
    }

    public int drift(int n) {
        if (n < 1 || n > MOST_DRIFT) {
            return BAD;
        }
        for (int s = 0; s < n; s++) {
            past.keep(now);
            now.driftOn();
        }
        return now.bits;
    }

    public int undo() {
        return past.giveBack(now) ? past.known : NONE;
    }

    public int seed(int v) {
        if (v < 0) {
            return BAD;
        }
        int before = now.draw;
        now.draw = v;
        return before;
    }

    // ---- 2 foretold

    public int goes(int state, int what) {
        if (!isState(state) || what < 0 || what > 1) {
            return BAD;
        }
        return what == 0 ? now.run(state) : now.runBack(state);
    }

    public int far(int state, int k) {
        if (!isState(state) || k < 0 || k > MOST_RUNS) {
            return BAD;
        }
        return foretold.behindRuns(state, k);
    }

    public int ring(int state) {
        if (!isState(state)) {
            return BAD;
        }
        return foretold.ringLength(state);
    }

    public int rings(int what) {
        if (what < 0 || what > 2) {
            return BAD;
        }
        foretold.lookAtRings();
        if (what == 0) {
            return foretold.ringCount;
        }
        return what == 1 ? foretold.longestRing : foretold.stillStates;
    }

    public int order() {
        foretold.lookAtRings();
        return foretold.allRings;
    }

    public int odd() {
        foretold.lookAtRings();
        return (now.states() - foretold.ringCount) & 1;
    }

    public int alike(int gate, int other) {
        if (!areTwoGates(gate, other)) {
            return BAD;
        }
        return foretold.mayChangePlaces(gate, other) ? 1 : 0;
    }

    public int pair() {
        return foretold.firstPair();
    }

    public int hangs(int wire, int what) {
        if (!isWire(wire) || what < 0 || what > 1) {
            return BAD;
        }
        return what == 0 ? foretold.hangsOn(wire) : foretold.turnedStates(wire);
    }

    public int way(int from, int to, int k) {
        if (!isState(from) || !isState(to) || k < -1) {
            return BAD;
        }
        return k == -1 ? foretold.wayLength(from, to) : foretold.wayGate(from, to, k);
    }

    public int reach(int state) {
        if (!isState(state)) {
            return BAD;
        }
        return foretold.spreadFrom(state);
    }

    public int shows(int state) {
        if (!isState(state)) {
            return BAD;
        }
        return foretold.shownGates(state);
    }

    public int telling(int what) {
        if (what < 0 || what > 1) {
            return BAD;
        }
        int state = foretold.tellingState();
        return what == 0 ? state : Integer.bitCount(foretold.shownGates(state));
    }

    public int likely(int wire, int c, int what) {
        if (!isWire(wire) || c < 0 || c > 10 || what < 0 || what > 1) {
            return BAD;
        }
        return foretold.likelySet(wire, c, what == 0);
    }

    public int image() {
        imageNow.becomes(now);
        imagePast.becomes(past);
        hasImage = true;
        return 1;
    }

    public int restore() {
        if (!hasImage) {
            return NONE;
        }
        now.becomes(imageNow);
        past.becomes(imagePast);
        return 1;
    }

    // ---- 3 sheets

    public int came(int gate, int state, int sheet, int lane, int i, int n) {
        if (gate < UPS || gate >= now.count || !areStates(state, n, MOST_CAME) || !isLaneOfSheet(sheet, lane)) {
            return BAD;
        }
        Sheet row = sheets[sheet];
        int fault = row.faultOf(lane, i, n);
        if (fault != 0) {
            return fault;
        }
        if (gate == DEATHS) {
            return foretold.deathsBy(row, i, state, n);
        }
        return gate == UPS ? foretold.runsBy(row, i, state, n) : foretold.kindsBy(row, i, state, n, gate);
    }

    public int film(int state, int n, int sheet, int lane, int i) {
        if (!areStates(state, n, MOST_ITEMS) || !isLaneOfSheet(sheet, lane)) {
            return BAD;
        }
        Sheet row = sheets[sheet];
        int fault = row.faultOf(lane, i, n);
        if (fault != 0) {
            return fault;
        }
        for (int s = 0; s < n; s++) {
            row.put(i + s, now.run(state + s));
        }
        return n;
    }

    public int sheet(int sheet, int lane, int n) {
        if (!isLaneOfSheet(sheet, lane) || n > MOST_ITEMS) {
            return BAD;
        }
        if (n < 0) {
            return SIZE;
        }
        sheets[sheet].begin(lane, n);
        return n;
    }

    public int drop(int sheet) {
        if (!isSheet(sheet)) {
            return BAD;
        }
        Sheet row = sheets[sheet];
        if (!row.there) {
            return NULL;
        }
        row.there = false;
        return row.size;
    }

    public int item(int sheet, int lane, int i, long v) {
        if (!isLaneOfSheet(sheet, lane)) {
            return BAD;
        }
        Sheet row = sheets[sheet];
        int fault = row.faultOf(lane, i, 1);
        if (fault != 0) {
            return fault;
        }
        row.put(i, v);
        return 1;
    }

    public int copy(int from, int i, int to, int j, int n) {
        if (!isSheet(from) || !isSheet(to)) {
            return BAD;
        }
        Sheet source = sheets[from];
        Sheet target = sheets[to];
        if (!source.there || !target.there) {
            return NULL;
        }
        if (source.lane != target.lane) {
            return CAST;
        }
        if (!source.spans(i, n) || !target.spans(j, n)) {
            return INDEX;
        }
        System.arraycopy(source.items, i, target.items, j, n);
        return n;
    }

    private boolean isWire(int wire) {
        return wire >= 0 && wire < now.wires;
    }

    private boolean isGate(int gate) {
        return gate >= 0 && gate < now.count;
    }

    private boolean areTwoGates(int gate, int other) {
        return isGate(gate) && isGate(other) && gate != other;
    }

    private boolean isState(int state) {
        return state >= 0 && state < now.states();
    }

    private boolean areStates(int state, int n, int most) {
        return isState(state) && n >= 1 && n <= most && state + n <= now.states();
    }

    private static boolean isSheet(int sheet) {
        return sheet >= 0 && sheet < SHEETS;
    }

    private static boolean isLaneOfSheet(int sheet, int lane) {
        return isSheet(sheet) && lane >= 0 && lane < LANES;
    }

    /**
     * A gate is one number, so that gates are kept, moved and brought back as numbers are: its kind in the
     * lowest three bits, three more for each of the wires A, B, C, and a bit for being dead.
     */
    private static final class Gate {
        static final int KINDS = 5;
        private static final int TURN = 0, IF = 1, CHANGE = 2, BOTH = 3, PICK = 4;
        private static final int THREE_BITS = 7, DEAD = 1 << 12;

        static int pack(int kind, int a, int b, int c) {
            return kind | a << 3 | b << 6 | c << 9;
        }

        static int kindOf(int gate) {
            return gate & THREE_BITS;
        }

        /** Wire A (which 0), B (1) or C (2). */
        static int wireAt(int gate, int which) {
            return gate >> (3 + 3 * which) & THREE_BITS;
        }

        static boolean isDead(int gate) {
            return (gate & DEAD) != 0;
        }

        static int killed(int gate) {
            return gate | DEAD;
        }

        static int healed(int gate) {
            return gate & ~DEAD;
        }

        static int asKind(int gate, int kind) {
            return gate & ~THREE_BITS | kind;
        }

        static int wiresOf(int kind) {
            if (kind == TURN) {
                return 1;
            }
            return kind == IF || kind == CHANGE ? 2 : 3;
        }

        /** Answers -1 for a letter that names no kind. */
        static int kindNamed(int letter) {
            switch (letter) {
                case 't': return TURN;
                case 'i': return IF;
                case 'c': return CHANGE;
                case 'b': return BOTH;
                case 'p': return PICK;
                default: return -1;
            }
        }

        static boolean areUnlike(int kind, int a, int b, int c) {
            int has = wiresOf(kind);
            return (has < 2 || a != b) && (has < 3 || a != c && b != c);
        }

        static boolean mayLie(int kind, int a, int b, int c, int wires) {
            if (kind < 0 || kind >= KINDS || a < 0 || b < 0 || c < 0 || a >= wires || b >= wires || c >= wires) {
                return false;
            }
            int has = wiresOf(kind);
            return (has > 1 || b == 0) && (has > 2 || c == 0) && areUnlike(kind, a, b, c);
        }

        /** Every kind is its own way back, so this serves forwards and backwards. */
        static int act(int gate, int state) {
            if (isDead(gate)) {
                return state;
            }
            int a = 1 << wireAt(gate, 0);
            int b = 1 << wireAt(gate, 1);
            int c = 1 << wireAt(gate, 2);
            switch (kindOf(gate)) {
                case TURN: return state ^ a;
                case IF: return turnIf(state, a, b);
                case CHANGE: return change(state, a, b);
                case BOTH: return (state & c) != 0 ? turnIf(state, a, b) : state;
                case PICK: return (state & c) != 0 ? change(state, a, b) : state;
                default: return state;
            }
        }

        private static int turnIf(int state, int turned, int ruling) {
            return (state & ruling) != 0 ? state ^ turned : state;
        }

        private static int change(int state, int a, int b) {
            return turnIf(turnIf(turnIf(state, a, b), b, a), a, b);
        }
    }

    /** The wires and gates with the bits on them: all that an undoing or an image brings back. */
    private static final class Board {
        int wires = 3;
        int count;
        final int[] gates = new int[MOST_GATES];
        int bits;
        int place;
        int draw = 1;

        int states() {
            return 1 << wires;
        }

        void clear(int wiresThen) {
            wires = wiresThen;
            count = 0;
            bits = 0;
            place = 0;
        }

        void becomes(Board other) {
            wires = other.wires;
            count = other.count;
            System.arraycopy(other.gates, 0, gates, 0, MOST_GATES);
            bits = other.bits;
            place = other.place;
            draw = other.draw;
        }

        void add(int gate) {
            if (count < MOST_GATES) {
                gates[count] = gate;
                count++;
            }
        }

        int deadOnes() {
            int set = 0;
            for (int g = 0; g < count; g++) {
                if (Gate.isDead(gates[g])) {
                    set |= 1 << g;
                }
            }
            return set;
        }

        void stepOn() {
            if (place < count) {
                bits = Gate.act(gates[place], bits);
                place++;
            }
        }

        void stepBack() {
            if (place > 0) {
                place--;
                bits = Gate.act(gates[place], bits);
            }
        }

        void turnOver(int wire) {
            bits ^= 1 << wire;
        }

        void driftOn() {
            draw = (int) ((draw * 1103515245L + 12345L) & 0x7fffffffL);
            if (draw / 65536 % 3 == 0 && wires > 0) {
                turnOver(draw / 256 % wires);
            }
            if (place < count) {
                stepOn();
            } else {
                place = 0;
            }
        }

        int run(int state) {
            int then = state;
            for (int g = 0; g < count; g++) {
                then = Gate.act(gates[g], then);
            }
            return then;
        }

        int runBack(int state) {
            int then = state;
            for (int g = count - 1; g >= 0; g--) {
                then = Gate.act(gates[g], then);
            }
            return then;
        }

        /** A run, were another gate in the place of one. */
        int runWith(int state, int where, int gate) {
            int then = state;
            for (int g = 0; g < count; g++) {
                then = Gate.act(g == where ? gate : gates[g], then);
            }
            return then;
        }
    }

    /** What may be undone: the boards as they were, the oldest of them lost where there are too many. */
    private static final class Past {
        private final Board[] boards = new Board[MOST_UNDONE];
        private int next;
        int known;

        Past() {
            for (int b = 0; b < MOST_UNDONE; b++) {
                boards[b] = new Board();
            }
        }

        void keep(Board board) {
            boards[next].becomes(board);
            next = next + 1 < MOST_UNDONE ? next + 1 : 0;
            known = Math.min(known + 1, MOST_UNDONE);
        }

        boolean giveBack(Board board) {
            if (known == 0) {
                return false;
            }
            next = next > 0 ? next - 1 : MOST_UNDONE - 1;
            known--;
            board.becomes(boards[next]);
            return true;
        }

        void forget() {
            known = 0;
        }

        void becomes(Past other) {
            for (int b = 0; b < MOST_UNDONE; b++) {
                boards[b].becomes(other.boards[b]);
            }
            next = other.next;
            known = other.known;
        }
    }

    /** The letters typed; where they are no circuit, reading stops at the fault's place. */
    private static final class Tape {
        private final char[] letters = new char[MOST_LETTERS];
        int length;
        int at;

        boolean add(char letter) {
            if (length >= MOST_LETTERS) {
                return false;
            }
            letters[length] = letter;
            length++;
            return true;
        }

        boolean readInto(Board board) {
            at = 0;
            return readWires(board) && readBits(board) && takes(':') && readGates(board);
        }

        private boolean readWires(Board board) {
            skipBlanks();
            int digit = digitHere();
            if (digit < FEWEST_WIRES || digit > MOST_WIRES) {
                return false;
            }
            at++;
            board.clear(digit);
            return true;
        }

        private boolean readBits(Board board) {
            if (!takes('=')) {
                return true;
            }
            skipBlanks();
            int first = at;
            int number = digitHere();
            if (number < 0) {
                return false;
            }
            at++;
            int digit = digitHere();
            if (digit >= 0) {
                number = 10 * number + digit;
                at++;
            }
            if (number >= board.states()) {
                at = first;
                return false;
            }
            board.bits = number;
            return true;
        }

        private boolean readGates(Board board) {
            if (isAtEnd()) {
                return true;
            }
            for (int g = 0; g < MOST_GATES; g++) {
                if (!readGate(board)) {
                    return false;
                }
                if (isAtEnd()) {
                    return true;
                }
                // a comma behind the last gate that there may be can't stand there, so it is not taken
                if (board.count >= MOST_GATES || !takes(',')) {
                    return false;
                }
            }
            return false;
        }

        private boolean readGate(Board board) {
            skipBlanks();
            int kind = at < length ? Gate.kindNamed(letters[at]) : -1;
            if (kind < 0) {
                return false;
            }
            at++;
            int has = Gate.wiresOf(kind);
            int taken = 0;
            int gate = kind;
            for (int w = 0; w < has; w++) {
                skipBlanks();
                int wire = digitHere();
                if (wire < 0 || wire >= board.wires || (taken >> wire & 1) != 0) {
                    return false;
                }
                at++;
                taken |= 1 << wire;
                gate |= Gate.pack(0, w == 0 ? wire : 0, w == 1 ? wire : 0, w == 2 ? wire : 0);
            }
            board.add(takes('!') ? Gate.killed(gate) : gate);
            return true;
        }

        private void skipBlanks() {
            while (at < length && letters[at] == ' ') {
                at++;
            }
        }

        private boolean isAtEnd() {
            skipBlanks();
            return at >= length;
        }

        private boolean takes(char sign) {
            skipBlanks();
            if (at >= length || letters[at] != sign) {
                return false;
            }
            at++;
            return true;
        }

        /** The digit at this very place, as blanks end a number; -1 for none. */
        private int digitHere() {
            if (at >= length || letters[at] < '0' || letters[at] > '9') {
                return -1;
            }
            return letters[at] - '0';
        }
    }

    /** What would be: looks at its board, on which all else is done, and changes nothing of it. */
    private static final class Foretold {
        final Board board = new Board();
        private final int[] to = new int[MOST_STATES];
        private final int[] work = new int[MOST_STATES];
        private final int[] line = new int[MOST_STATES];
        int ringCount;
        int longestRing;
        int stillStates;
        int allRings;

        private void learnRuns() {
            int states = board.states();
            for (int s = 0; s < states; s++) {
                to[s] = board.run(s);
            }
        }

        int ringLength(int state) {
            int here = board.run(state);
            int length = 1;
            while (here != state && length < MOST_STATES) {
                here = board.run(here);
                length++;
            }
            return length;
        }

        int behindRuns(int state, int runs) {
            int length = ringLength(state);
            int left = length > 0 ? runs % length : 0;
            int here = state;
            for (int r = 0; r < left; r++) {
                here = board.run(here);
            }
            return here;
        }

        void lookAtRings() {
            learnRuns();
            ringCount = 0;
            longestRing = 0;
            stillStates = 0;
            allRings = 1;
            long seen = 0;
            int states = board.states();
            for (int s = 0; s < states; s++) {
                int length = 0;
                for (int here = s; (seen >> here & 1) == 0 && length < MOST_STATES; here = to[here]) {
                    seen |= 1L << here;
                    length++;
                }
                if (length > 0) {
                    countRing(length);
                }
            }
        }

        private void countRing(int length) {
            ringCount++;
            longestRing = Math.max(longestRing, length);
            stillStates += length == 1 ? 1 : 0;
            int common = commonDivisor(allRings, length);
            allRings = common > 0 ? allRings / common * length : allRings;
        }

        private static int commonDivisor(int one, int other) {
            int a = one;
            int b = other;
            for (int turn = 0; turn < 64 && b != 0; turn++) {
                int left = a % b;
                a = b;
                b = left;
            }
            return a;
        }

        boolean mayChangePlaces(int gate, int other) {
            int states = board.states();
            for (int s = 0; s < states; s++) {
                if (board.run(s) != runChanged(s, gate, other)) {
                    return false;
                }
            }
            return true;
        }

        private int runChanged(int state, int gate, int other) {
            int then = state;
            for (int g = 0; g < board.count; g++) {
                int from = g == gate ? other : g == other ? gate : g;
                then = Gate.act(board.gates[from], then);
            }
            return then;
        }

        /**
         * As nothing is lost, what lies ahead of the lesser gate and behind the other one can't hide a change:
         * it is enough to look from the one to the other. In work is what the gates between them do.
         */
        int firstPair() {
            int states = board.states();
            for (int i = 0; i < board.count; i++) {
                for (int s = 0; s < states; s++) {
                    work[s] = s;
                }
                for (int j = i + 1; j < board.count; j++) {
                    if (mayBeLeftOut(board.gates[i], board.gates[j])) {
                        return 100 * i + j;
                    }
                    for (int s = 0; s < states; s++) {
                        work[s] = Gate.act(board.gates[j], work[s]);
                    }
                }
            }
            return NONE;
        }

        private boolean mayBeLeftOut(int gate, int other) {
            if (Gate.isDead(gate) || Gate.isDead(other)) {
                return false;
            }
            int states = board.states();
            for (int s = 0; s < states; s++) {
                if (Gate.act(other, work[Gate.act(gate, s)]) != work[s]) {
                    return false;
                }
            }
            return true;
        }

        int hangsOn(int wire) {
            learnRuns();
            int set = 0;
            int states = board.states();
            for (int w = 0; w < board.wires; w++) {
                for (int s = 0; s < states; s++) {
                    if (((to[s] ^ to[s ^ 1 << w]) >> wire & 1) != 0) {
                        set |= 1 << w;
                    }
                }
            }
            return set;
        }

        int turnedStates(int wire) {
            int turned = 0;
            int states = board.states();
            for (int s = 0; s < states; s++) {
                turned += (board.run(s) ^ s) >> wire & 1;
            }
            return turned;
        }

        /** Sets in work how many gates each state is away (-1: it can't be come to): how many states are not. */
        int spreadFrom(int state) {
            Arrays.fill(work, -1);
            work[state] = 0;
            line[0] = state;
            int reached = 1;
            for (int head = 0; head < reached && head < MOST_STATES; head++) {
                int here = line[head];
                for (int g = 0; g < board.count; g++) {
                    int then = Gate.act(board.gates[g], here);
                    if (work[then] < 0 && reached < MOST_STATES) {
                        work[then] = work[here] + 1;
                        line[reached] = then;
                        reached++;
                    }
                }
            }
            return reached;
        }

        /** Spreads from the end, as every gate leads back the way it came: so work says how far is left. */
        int wayLength(int from, int end) {
            spreadFrom(end);
            return work[from] < 0 ? NONE : work[from];
        }

        int wayGate(int from, int end, int k) {
            if (k >= wayLength(from, end)) {
                return NONE;
            }
            int here = from;
            for (int passed = 0; passed < k; passed++) {
                here = Gate.act(board.gates[nearerGate(here)], here);
            }
            return nearerGate(here);
        }

        private int nearerGate(int here) {
            for (int g = 0; g < board.count; g++) {
                if (work[Gate.act(board.gates[g], here)] == work[here] - 1) {
                    return g;
                }
            }
            return 0;
        }

        /** As the gates behind it lose nothing, a gate shows just if it changes what comes to it. */
        int shownGates(int state) {
            int set = 0;
            int here = state;
            for (int g = 0; g < board.count; g++) {
                int then = Gate.act(board.gates[g], here);
                if (then != here) {
                    set |= 1 << g;
                }
                here = then;
            }
            return set;
        }

        int tellingState() {
            int best = 0;
            int most = 0;
            int states = board.states();
            for (int s = 0; s < states; s++) {
                int shown = Integer.bitCount(shownGates(s));
                if (shown > most) {
                    most = shown;
                    best = s;
                }
            }
            return best;
        }

        int likelySet(int wire, int c, boolean above) {
            int sum = 0;
            int states = board.states();
            for (int s = 0; s < states; s++) {
                if ((board.run(s) >> wire & 1) != 0) {
                    sum += weight(s, c);
                }
            }
            int whole = 1;
            for (int w = 0; w < board.wires; w++) {
                whole *= 10;
            }
            int common = commonDivisor(sum, whole);
            int part = above ? sum : whole;
            return common > 0 ? part / common : part;
        }

        private int weight(int state, int c) {
            int product = 1;
            for (int w = 0; w < board.wires; w++) {
                product *= (state >> w & 1) != 0 ? c : 10 - c;
            }
            return product;
        }

        int deathsBy(Sheet row, int i, int state, int n) {
            int set = 0;
            for (int g = 0; g < board.count; g++) {
                if (tellsOf(row, i, state, n, g, Gate.killed(board.gates[g]))) {
                    set |= 1 << g;
                }
            }
            return set;
        }

        int kindsBy(Sheet row, int i, int state, int n, int where) {
            int gate = board.gates[where];
            int a = Gate.wireAt(gate, 0);
            int b = Gate.wireAt(gate, 1);
            int c = Gate.wireAt(gate, 2);
            int set = 0;
            for (int kind = 0; kind < Gate.KINDS; kind++) {
                if (Gate.areUnlike(kind, a, b, c) && tellsOf(row, i, state, n, where, Gate.asKind(gate, kind))) {
                    set |= 1 << kind;
                }
            }
            return set;
        }

        /** Whether the row tells of the board, were a gate there in the place of one. */
        private boolean tellsOf(Sheet row, int i, int state, int n, int where, int gate) {
            for (int s = 0; s < n; s++) {
                if (row.items[i + s] != board.runWith(state + s, where, gate)) {
                    return false;
                }
            }
            return true;
        }

        int runsBy(Sheet row, int i, int state, int n) {
            learnRuns();
            for (int s = 0; s < n; s++) {
                work[s] = state + s;
            }
            for (int runs = 1; runs <= MOST_UPS; runs++) {
                boolean told = true;
                for (int s = 0; s < n; s++) {
                    work[s] = to[work[s]];
                    told = told && row.items[i + s] == work[s];
                }
                if (told) {
                    return runs;
                }
            }
            return NONE;
        }
    }

    /** A row of a lane, or nothing; its items are held as longs, cut to the lane when they come. */
    private static final class Sheet {
        boolean there;
        int lane;
        int size;
        final long[] items = new long[MOST_ITEMS];

        void begin(int laneThen, int sizeThen) {
            there = true;
            lane = laneThen;
            size = sizeThen;
            Arrays.fill(items, 0L);
        }

        /** What the machine would find, taking n items from i on as a row of a lane; 0 for nothing. */
        int faultOf(int taken, int i, int n) {
            if (!there) {
                return NULL;
            }
            if (lane != taken) {
                return CAST;
            }
            return spans(i, n) ? 0 : INDEX;
        }

        boolean spans(int i, int n) {
            return i >= 0 && n >= 0 && i <= size - n;
        }

        void put(int i, long v) {
            if (i >= 0 && i < size) {
                items[i] = cut(v);
            }
        }

        private long cut(long v) {
            switch (lane) {
                case 0: return (byte) v;
                case 1: return (short) v;
                case 2: return (int) v;
                default: return v;
            }
        }
    }
}
