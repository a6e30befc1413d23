import java.lang.reflect.Array;
import java.math.BigInteger;
import java.util.ArrayDeque;
import java.util.ArrayList;
import java.util.Deque;
import java.util.HashMap;
import java.util.List;
import java.util.Map;
import java.util.TreeSet;
import java.util.function.IntUnaryOperator;

/** The document's words, followed as they stand and without care for speed: what MirrorWires is compared with. */
final class PlainWires {
    static final int BAD = -1, NOT = -2, FULL = -3, NONE = -4, NULL = -11, CAST = -12, INDEX = -13, SIZE = -14;

    /** A gate; it works on wires as booleans. */
    private record Gate(int kind, int a, int b, int c, boolean dead) {
        Gate dead(boolean then) {
            return new Gate(kind, a, b, c, then);
        }

        Gate kind(int then) {
            return new Gate(then, a, b, c, dead);
        }

        boolean unlike() {
            List<Integer> has = List.of(a, b, c).subList(0, has(kind));
            return new TreeSet<>(has).size() == has.size();
        }

        static int has(int kind) {
            return new int[] {1, 2, 2, 3, 3}[kind];
        }

        void on(boolean[] set) {
            if (!dead) {
                byKind(set, kind, a, b);
            }
        }

        private void byKind(boolean[] set, int asKind, int x, int y) {
            switch (asKind) {
                case 0 -> set[x] = !set[x];
                case 1 -> {
                    if (set[y]) {
                        byKind(set, 0, x, y);
                    }
                }
                case 2 -> {
                    byKind(set, 1, x, y);
                    byKind(set, 1, y, x);
                    byKind(set, 1, x, y);
                }
                default -> {
                    if (set[c]) {
                        byKind(set, asKind == 3 ? 1 : 2, x, y);
                    }
                }
            }
        }

        int does(int state) {
            boolean[] set = new boolean[6];
            for (int w = 0; w < 6; w++) {
                set[w] = (state & 1 << w) != 0;
            }
            on(set);
            int then = 0;
            for (int w = 0; w < 6; w++) {
                then += set[w] ? 1 << w : 0;
            }
            return then;
        }
    }

    private record Shot(int wires, List<Gate> gates, int bits, int place, long draw) { }

    private record Image(Shot shot, List<Shot> past) { }

    private int wires = 3;
    private List<Gate> gates = new ArrayList<>();
    private int bits;
    private int place;
    private long draw = 1;
    private Deque<Shot> past = new ArrayDeque<>();
    private Image image;
    private final StringBuilder tape = new StringBuilder();
    private final Object[] sheets = new Object[4];

    private Shot shot() {
        return new Shot(wires, List.copyOf(gates), bits, place, draw);
    }

    private void be(Shot shot) {
        wires = shot.wires;
        gates = new ArrayList<>(shot.gates);
        bits = shot.bits;
        place = shot.place;
        draw = shot.draw;
    }

    private void keep() {
        past.addLast(shot());
        if (past.size() > 8) {
            past.removeFirst();
        }
    }

    private int states() {
        return (int) Math.pow(2, wires);
    }

    private static boolean out(int number, int least, int most) {
        return number < least || number > most;
    }

    private boolean noState(int state) {
        return out(state, 0, states() - 1);
    }

    private boolean noGate(int gate) {
        return out(gate, 0, gates.size() - 1);
    }

    private boolean noWire(int wire) {
        return out(wire, 0, wires - 1);
    }

    int wires(int n) {
        if (out(n, 2, 6)) {
            return BAD;
        }
        int was = wires;
        be(new Shot(n, List.of(), 0, 0, draw));
        past.clear();
        return was;
    }

    int gate(int kind, int a, int b, int c) {
        if (out(kind, 0, 4) || noWire(a) || noWire(b) || noWire(c)) {
            return BAD;
        }
        Gate gate = new Gate(kind, a, b, c, false);
        if (!gate.unlike() || Gate.has(kind) < 2 && b != 0 || Gate.has(kind) < 3 && c != 0) {
            return BAD;
        }
        if (gates.size() == 16) {
            return FULL;
        }
        gates.add(gate);
        past.clear();
        return gates.size() - 1;
    }

    int of(int gate, int what) {
        if (noGate(gate) || out(what, 0, 4)) {
            return BAD;
        }
        Gate it = gates.get(gate);
        return new int[] {it.kind, it.a, it.b, it.c, it.dead ? 1 : 0}[what];
    }

    int does(int gate, int state) {
        return noGate(gate) || noState(state) ? BAD : gates.get(gate).does(state);
    }

    int type(int letter) {
        if (out(letter, 32, 126)) {
            return BAD;
        }
        if (tape.length() == 110) {
            return FULL;
        }
        return tape.append((char) letter).length();
    }

    int circuit() {
        PlainText text = new PlainText(tape.toString());
        tape.setLength(0);
        if (!text.isCircuit()) {
            return -20 - text.fault;
        }
        List<Gate> read = new ArrayList<>();
        for (int[] gate : text.gates) {
            read.add(new Gate(gate[0], gate[1], gate[2], gate[3], gate[4] == 1));
        }
        be(new Shot(text.wires, read, text.bits, 0, draw));
        past.clear();
        return gates.size();
    }

    private int dead() {
        int set = 0;
        for (int g = 0; g < gates.size(); g++) {
            set += gates.get(g).dead ? 1 << g : 0;
        }
        return set;
    }

    int count(int what) {
        if (out(what, 0, 6)) {
            return BAD;
        }
        int set = Integer.toBinaryString(bits).replace("0", "").length();
        return new int[] {wires, gates.size(), bits, place, dead(), set, past.size()}[what];
    }

    int step(int n) {
        if (out(n, 1, 16)) {
            return BAD;
        }
        if (place + n > gates.size()) {
            return NOT;
        }
        for (int s = 0; s < n; s++) {
            keep();
            bits = gates.get(place++).does(bits);
        }
        return bits;
    }

    int back(int n) {
        if (out(n, 1, 16)) {
            return BAD;
        }
        if (place - n < 0) {
            return NOT;
        }
        for (int s = 0; s < n; s++) {
            keep();
            bits = gates.get(--place).does(bits);
        }
        return bits;
    }

    int home() {
        if (place == 0) {
            return NOT;
        }
        keep();
        int was = place;
        place = 0;
        return was;
    }

    int flip(int wire) {
        if (noWire(wire)) {
            return BAD;
        }
        keep();
        bits = new Gate(0, wire, 0, 0, false).does(bits);
        return bits;
    }

    int kill(int gate) {
        return dies(gate, true);
    }

    int heal(int gate) {
        return dies(gate, false);
    }

    private int dies(int gate, boolean then) {
        if (noGate(gate)) {
            return BAD;
        }
        if (gates.get(gate).dead == then) {
            return NOT;
        }
        keep();
        gates.set(gate, gates.get(gate).dead(then));
        return dead();
    }

    int move(int gate, int other) {
        if (noGate(gate) || noGate(other) || gate == other) {
            return BAD;
        }
        keep();
        java.util.Collections.swap(gates, gate, other);
        return 1;
    }

    int drift(int n) {
        if (out(n, 1, 40)) {
            return BAD;
        }
        for (int s = 0; s < n; s++) {
            keep();
            draw = BigInteger.valueOf(draw).multiply(BigInteger.valueOf(1103515245)).add(BigInteger.valueOf(12345))
                    .mod(BigInteger.TWO.pow(31)).longValue();
            if (draw / 65536 % 3 == 0) {
                bits = new Gate(0, (int) (draw / 256 % wires), 0, 0, false).does(bits);
            }
            if (place == gates.size()) {
                place = 0;
            } else {
                bits = gates.get(place++).does(bits);
            }
        }
        return bits;
    }

    int undo() {
        if (past.isEmpty()) {
            return NONE;
        }
        be(past.removeLast());
        return past.size();
    }

    int seed(int v) {
        if (v < 0) {
            return BAD;
        }
        int was = (int) draw;
        draw = v;
        return was;
    }

    private static int run(List<Gate> gates, int state) {
        int then = state;
        for (Gate gate : gates) {
            then = gate.does(then);
        }
        return then;
    }

    /** Where all states go, in a list that can be compared. */
    private List<Integer> whole(List<Gate> by) {
        List<Integer> to = new ArrayList<>();
        for (int s = 0; s < states(); s++) {
            to.add(run(by, s));
        }
        return to;
    }

    int goes(int state, int what) {
        if (noState(state) || out(what, 0, 1)) {
            return BAD;
        }
        return what == 0 ? run(gates, state) : whole(gates).indexOf(state);
    }

    int far(int state, int k) {
        if (noState(state) || out(k, 0, 2000000000)) {
            return BAD;
        }
        List<Integer> doubled = whole(gates);
        int here = state;
        for (int left = k; left > 0; left /= 2) {
            here = left % 2 == 1 ? doubled.get(here) : here;
            List<Integer> once = doubled;
            doubled = new ArrayList<>();
            for (int s = 0; s < states(); s++) {
                doubled.add(once.get(once.get(s)));
            }
        }
        return here;
    }

    private TreeSet<Integer> ringOf(int state) {
        TreeSet<Integer> ring = new TreeSet<>();
        for (int here = state; ring.add(here);) {
            here = run(gates, here);
        }
        return ring;
    }

    int ring(int state) {
        return noState(state) ? BAD : ringOf(state).size();
    }

    private Map<Integer, Integer> ringSizes() {
        Map<Integer, Integer> sizes = new HashMap<>();
        for (int s = 0; s < states(); s++) {
            sizes.put(ringOf(s).first(), ringOf(s).size());
        }
        return sizes;
    }

    int rings(int what) {
        if (out(what, 0, 2)) {
            return BAD;
        }
        Map<Integer, Integer> sizes = ringSizes();
        if (what == 0) {
            return sizes.size();
        }
        return what == 1 ? sizes.values().stream().max(Integer::compare).get()
                : (int) sizes.values().stream().filter(size -> size == 1).count();
    }

    int order() {
        BigInteger all = BigInteger.ONE;
        for (int size : ringSizes().values()) {
            BigInteger one = BigInteger.valueOf(size);
            all = all.multiply(one).divide(all.gcd(one));
        }
        return all.intValueExact();
    }

    int odd() {
        return Math.abs((states() - ringSizes().size()) % 2);
    }

    private List<Gate> with(int place, Gate gate) {
        List<Gate> then = new ArrayList<>(gates);
        then.set(place, gate);
        return then;
    }

    int alike(int gate, int other) {
        if (noGate(gate) || noGate(other) || gate == other) {
            return BAD;
        }
        List<Gate> then = with(gate, gates.get(other));
        then.set(other, gates.get(gate));
        return whole(gates).equals(whole(then)) ? 1 : 0;
    }

    int pair() {
        for (int i = 0; i < gates.size(); i++) {
            for (int j = i + 1; j < gates.size(); j++) {
                List<Gate> then = with(i, gates.get(i).dead(true));
                then.set(j, gates.get(j).dead(true));
                if (!gates.get(i).dead && !gates.get(j).dead && whole(gates).equals(whole(then))) {
                    return 100 * i + j;
                }
            }
        }
        return NONE;
    }

    int hangs(int wire, int what) {
        if (noWire(wire) || out(what, 0, 1)) {
            return BAD;
        }
        int set = 0;
        int turned = 0;
        for (int s = 0; s < states(); s++) {
            boolean behind = (run(gates, s) & 1 << wire) != 0;
            turned += behind != ((s & 1 << wire) != 0) ? 1 : 0;
            for (int w = 0; w < wires; w++) {
                int flipped = new Gate(0, w, 0, 0, false).does(s);
                set |= behind != ((run(gates, flipped) & 1 << wire) != 0) ? 1 << w : 0;
            }
        }
        return what == 0 ? set : turned;
    }

    /** Rows in their order, the shorter ones first: so the first that comes to a state is its way. */
    private Map<Integer, List<Integer>> ways(int from) {
        Map<Integer, List<Integer>> ways = new HashMap<>();
        ways.put(from, List.of());
        Deque<Integer> line = new ArrayDeque<>(List.of(from));
        while (!line.isEmpty()) {
            int here = line.removeFirst();
            for (int g = 0; g < gates.size(); g++) {
                int then = gates.get(g).does(here);
                if (!gates.get(g).dead && !ways.containsKey(then)) {
                    List<Integer> row = new ArrayList<>(ways.get(here));
                    row.add(g);
                    ways.put(then, row);
                    line.addLast(then);
                }
            }
        }
        return ways;
    }

    int way(int from, int to, int k) {
        if (noState(from) || noState(to) || k < -1) {
            return BAD;
        }
        List<Integer> row = ways(from).get(to);
        if (row == null) {
            return NONE;
        }
        if (k == -1) {
            return row.size();
        }
        return k < row.size() ? row.get(k) : NONE;
    }

    int reach(int state) {
        return noState(state) ? BAD : ways(state).size();
    }

    int shows(int state) {
        if (noState(state)) {
            return BAD;
        }
        int set = 0;
        for (int g = 0; g < gates.size(); g++) {
            set += run(gates, state) != run(with(g, gates.get(g).dead(true)), state) ? 1 << g : 0;
        }
        return set;
    }

    int telling(int what) {
        if (out(what, 0, 1)) {
            return BAD;
        }
        int best = 0;
        for (int s = states() - 1; s >= 0; s--) {
            best = Integer.bitCount(shows(s)) >= Integer.bitCount(shows(best)) ? s : best;
        }
        best = Integer.bitCount(shows(best)) == Integer.bitCount(shows(0)) ? 0 : best;
        return what == 0 ? best : Integer.bitCount(shows(best));
    }

    int likely(int wire, int c, int what) {
        if (noWire(wire) || out(c, 0, 10) || out(what, 0, 1)) {
            return BAD;
        }
        BigInteger sum = BigInteger.ZERO;
        for (int s = 0; s < states(); s++) {
            int set = Integer.bitCount(s);
            if ((run(gates, s) & 1 << wire) != 0) {
                sum = sum.add(BigInteger.valueOf(c).pow(set).multiply(BigInteger.valueOf(10 - c).pow(wires - set)));
            }
        }
        BigInteger below = BigInteger.TEN.pow(wires);
        return (what == 0 ? sum : below).divide(sum.gcd(below)).intValueExact();
    }

    int image() {
        image = new Image(shot(), List.copyOf(past));
        return 1;
    }

    int restore() {
        if (image == null) {
            return NONE;
        }
        be(image.shot);
        past = new ArrayDeque<>(image.past);
        return 1;
    }

    private static final List<Class<?>> LANES = List.of(byte[].class, short[].class, int[].class, long[].class);

    private int found(int sheet, int lane, int i, int n) {
        Object row = sheets[sheet];
        if (row == null) {
            return NULL;
        }
        if (row.getClass() != LANES.get(lane)) {
            return CAST;
        }
        return i < 0 || (long) i + n > Array.getLength(row) ? INDEX : 0;
    }

    private boolean noRow(int sheet, int lane) {
        return out(sheet, 0, 3) || out(lane, 0, 3);
    }

    private boolean noStates(int state, int n, int most) {
        return noState(state) || out(n, 1, most) || noState(state + n - 1);
    }

    private boolean told(int sheet, int i, int state, int n, IntUnaryOperator then) {
        for (int s = 0; s < n; s++) {
            if (Array.getLong(sheets[sheet], i + s) != then.applyAsInt(state + s)) {
                return false;
            }
        }
        return true;
    }

    int came(int gate, int state, int sheet, int lane, int i, int n) {
        if (out(gate, -2, gates.size() - 1) || noStates(state, n, 8) || noRow(sheet, lane)) {
            return BAD;
        }
        if (found(sheet, lane, i, n) != 0) {
            return found(sheet, lane, i, n);
        }
        if (gate == -2) {
            for (int runs = 1; runs <= 200; runs++) {
                int by = runs;
                if (told(sheet, i, state, n, s -> far(s, by))) {
                    return runs;
                }
            }
            return NONE;
        }
        int set = 0;
        for (int k = 0; k < (gate == -1 ? gates.size() : 5); k++) {
            Gate then = gate == -1 ? gates.get(k).dead(true) : gates.get(gate).kind(k);
            List<Gate> by = with(gate == -1 ? k : gate, then);
            set += then.unlike() && told(sheet, i, state, n, s -> run(by, s)) ? 1 << k : 0;
        }
        return set;
    }

    int film(int state, int n, int sheet, int lane, int i) {
        if (noStates(state, n, 24) || noRow(sheet, lane)) {
            return BAD;
        }
        if (found(sheet, lane, i, n) != 0) {
            return found(sheet, lane, i, n);
        }
        for (int s = 0; s < n; s++) {
            item(sheet, lane, i + s, run(gates, state + s));
        }
        return n;
    }

    int sheet(int sheet, int lane, int n) {
        if (noRow(sheet, lane) || n > 24) {
            return BAD;
        }
        if (n < 0) {
            return SIZE;
        }
        sheets[sheet] = Array.newInstance(LANES.get(lane).getComponentType(), n);
        return n;
    }

    int drop(int sheet) {
        if (out(sheet, 0, 3)) {
            return BAD;
        }
        if (sheets[sheet] == null) {
            return NULL;
        }
        int had = Array.getLength(sheets[sheet]);
        sheets[sheet] = null;
        return had;
    }

    int item(int sheet, int lane, int i, long v) {
        if (noRow(sheet, lane)) {
            return BAD;
        }
        if (found(sheet, lane, i, 1) != 0) {
            return found(sheet, lane, i, 1);
        }
        switch (lane) {
            case 0 -> ((byte[]) sheets[sheet])[i] = (byte) v;
            case 1 -> ((short[]) sheets[sheet])[i] = (short) v;
            case 2 -> ((int[]) sheets[sheet])[i] = (int) v;
            default -> ((long[]) sheets[sheet])[i] = v;
        }
        return 1;
    }

    int copy(int from, int i, int to, int j, int n) {
        if (out(from, 0, 3) || out(to, 0, 3)) {
            return BAD;
        }
        Object source = sheets[from];
        Object target = sheets[to];
        if (source == null || target == null) {
            return NULL;
        }
        if (source.getClass() != target.getClass()) {
            return CAST;
        }
        if (n < 0 || i < 0 || j < 0 || (long) i + n > Array.getLength(source) || (long) j + n > Array.getLength(target)) {
            return INDEX;
        }
        long[] taken = new long[n];
        for (int t = 0; t < n; t++) {
            taken[t] = Array.getLong(source, i + t);
        }
        for (int t = 0; t < n; t++) {
            item(to, LANES.indexOf(target.getClass()), j + t, taken[t]);
        }
        return n;
    }
}
