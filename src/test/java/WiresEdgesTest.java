/** Edges of term 1 and of promises 1 to 6 and 8: a test for each sentence that names one. */
public final class WiresEdgesTest {
    private static final int LEAST = Integer.MIN_VALUE, MOST = Integer.MAX_VALUE;

    private WiresEdgesTest() { }

    public static void main(String[] args) {
        newObject();
        wires();
        states();
        gateNumbers();
        gateWires();
        gateFull();
        of();
        does();
        type();
        count();
        Script.end();
    }

    private static void newObject() {
        Script.on("promise 1: three wires, no gates; a state 0 at first, ahead of gate 0 at first",
                "counts = 3,0,0,0,0,0,0");
        Script.on("promise 1: no gates, so there is no gate 0",
                "of(0, 0) = BAD", "does(0, 0) = BAD", "kill(0) = BAD", "heal(0) = BAD", "move(0, 1) = BAD",
                "alike(0, 1) = BAD", "step(1) = NOT", "back(1) = NOT", "home() = NOT", "pair() = NONE");
        Script.on("promise 1: three wires, so there is no wire 3 and no state 8",
                "flip(3) = BAD", "hangs(3, 0) = BAD", "likely(3, 5, 0) = BAD", "goes(8, 0) = BAD", "goes(7, 0) = 7",
                "flip(2) = 4");
        Script.on("term 3: the draw is 1 at first", "seed(1) = 1");
        Script.on("promise 1: nothing is known to be undone", "undo() = NONE");
        Script.on("promise 1: there is no image", "restore() = NONE");
        Script.on("promise 1: the tape is empty", "circuit() = -20", "type(50) = 1");
        Script.on("sheets hold nothing at first",
                "drop(0) = NULL", "drop(1) = NULL", "drop(2) = NULL", "drop(3) = NULL");
    }

    private static void wires() {
        for (int n : new int[] {LEAST, -1, 0, 1, 7, 8, MOST}) {
            MirrorWires x = new MirrorWires();
            Script.due("wires(" + n + ")", x.wires(n), MirrorWires.BAD);
            Script.due("wires are left by wires(" + n + ")", x.count(0), 3);
        }
        int before = 3;
        MirrorWires x = new MirrorWires();
        for (int n : new int[] {2, 3, 4, 5, 6, 6, 2}) {
            Script.due("so many wires, 2 .. 6: " + n, x.wires(n), before);
            Script.due("wires then", x.count(0), n);
            Script.due("the last wire is there", x.flip(n - 1), 1 << (n - 1));
            Script.due("the next one is not", x.flip(n), MirrorWires.BAD);
            before = n;
        }
        Script.on("promise 2: none set, no gates, though there are as many wires as there were",
                "read '3=5:t0!,i21' = 2", "step(2) = 5", "flip(1) = 7", "wires(3) = 3", "counts = 3,0,0,0,0,0,0");
        Script.on("promise 2: no gates: the bits stand ahead of gate 0",
                "read '3:t0,t1' = 2", "step(2) = 3", "wires(4) = 3", "home() = NOT", "gate(0, 3, 0, 0) = 0",
                "count(3) = 0", "step(1) = 8");
        Script.on("promise 2: wires told leave nothing to be undone",
                "flip(0) = 1", "wires(3) = 3", "undo() = NONE", "count(2) = 0");
        Script.on("promise 2: refused wires leave all",
                "read '4=9:t0!,i21' = 2", "step(2) = 9", "flip(1) = 11", "wires(1) = BAD", "wires(7) = BAD",
                "counts = 4,2,11,2,1,3,3", "undo() = 2", "count(2) = 9");
        Script.on("promise 2: the draw, the tape, the image and the sheets stay",
                "seed(7) = 1", "type '3:'", "flip(2) = 4", "image() = 1", "sheet(2, 1, 5) = 5", "wires(2) = 3",
                "seed(7) = 7", "type(116) = 3", "drop(2) = 5", "restore() = 1", "counts = 3,0,4,0,0,1,1");
    }

    /** The calls that take a state, at the last one and at the one beyond it. */
    private static void states() {
        for (int n = 2; n <= 6; n++) {
            int last = (1 << n) - 1;
            MirrorWires x = new MirrorWires();
            x.wires(n);
            x.gate(0, 0, 0, 0);
            x.sheet(0, 2, 1);
            String by = ", " + n + " wires";
            Script.due("does: the last state" + by, x.does(0, last), last - 1);
            Script.due("goes: the last state" + by, x.goes(last, 0), last - 1);
            Script.due("comes: the last state" + by, x.goes(last, 1), last - 1);
            Script.due("far: the last state" + by, x.far(last, 2), last);
            Script.due("ring: the last state" + by, x.ring(last), 2);
            Script.due("way: the last state" + by, x.way(last, last, -1), 0);
            Script.due("reach: the last state" + by, x.reach(last), 2);
            Script.due("shows: the last state" + by, x.shows(last), 1);
            Script.due("film: the last state" + by, x.film(last, 1, 0, 2, 0), 1);
            Script.due("came: the last state" + by, x.came(-2, last, 0, 2, 0, 1), 1);
            for (int none : new int[] {last + 1, -1, LEAST, MOST}) {
                noState(x, none, ", state " + none + by);
            }
        }
    }

    private static void noState(MirrorWires x, int none, String by) {
        Script.due("does" + by, x.does(0, none), MirrorWires.BAD);
        Script.due("goes" + by, x.goes(none, 0), MirrorWires.BAD);
        Script.due("comes" + by, x.goes(none, 1), MirrorWires.BAD);
        Script.due("far" + by, x.far(none, 0), MirrorWires.BAD);
        Script.due("ring" + by, x.ring(none), MirrorWires.BAD);
        Script.due("way from" + by, x.way(none, 0, -1), MirrorWires.BAD);
        Script.due("way to" + by, x.way(0, none, -1), MirrorWires.BAD);
        Script.due("reach" + by, x.reach(none), MirrorWires.BAD);
        Script.due("shows" + by, x.shows(none), MirrorWires.BAD);
        Script.due("film" + by, x.film(none, 1, 0, 2, 0), MirrorWires.BAD);
        Script.due("deaths" + by, x.came(-1, none, 0, 2, 0, 1), MirrorWires.BAD);
        Script.due("ups" + by, x.came(-2, none, 0, 2, 0, 1), MirrorWires.BAD);
        Script.due("kinds" + by, x.came(0, none, 0, 2, 0, 1), MirrorWires.BAD);
    }

    /** The calls that take a gate: as many gates as there are, one more is not there. */
    private static void gateNumbers() {
        for (int gates : new int[] {1, 2, 15, 16}) {
            MirrorWires x = new MirrorWires();
            for (int g = 0; g < gates; g++) {
                Script.due("a gate behind all others: its number", x.gate(0, 0, 0, 0), g);
            }
            x.sheet(0, 0, 1);
            int last = gates - 1;
            String by = ", " + gates + " gates";
            Script.due("of: the last gate" + by, x.of(last, 4), 0);
            Script.due("does: the last gate" + by, x.does(last, 0), 1);
            Script.due("kill: the last gate" + by, x.kill(last), 1 << last);
            Script.due("heal: the last gate" + by, x.heal(last), 0);
            Script.due("came: the last gate" + by, x.came(last, 0, 0, 0, 0, 1), gates % 2 == 0 ? 1 : 0);
            for (int none : new int[] {gates, -1, LEAST, MOST}) {
                noGate(x, none, ", gate " + none + by);
            }
        }
    }

    private static void noGate(MirrorWires x, int none, String by) {
        Script.due("of" + by, x.of(none, 0), MirrorWires.BAD);
        Script.due("does" + by, x.does(none, 0), MirrorWires.BAD);
        Script.due("kill" + by, x.kill(none), MirrorWires.BAD);
        Script.due("heal" + by, x.heal(none), MirrorWires.BAD);
        Script.due("move" + by, x.move(none, 0), MirrorWires.BAD);
        Script.due("move, the other one" + by, x.move(0, none), MirrorWires.BAD);
        Script.due("alike" + by, x.alike(none, 0), MirrorWires.BAD);
        Script.due("alike, the other one" + by, x.alike(0, none), MirrorWires.BAD);
        if (none != -1) {
            Script.due("came" + by, x.came(none, 0, 0, 0, 0, 1), MirrorWires.BAD);
        }
    }

    /** Every kind over every row of wires from -1 to one beyond the last: which of them may lie. */
    private static void gateWires() {
        int[] has = {1, 2, 2, 3, 3};
        for (int n = 2; n <= 6; n++) {
            for (int at = 0; at < 5 * (n + 2) * (n + 2) * (n + 2); at++) {
                int kind = at % 5;
                int a = at / 5 % (n + 2) - 1;
                int b = at / 5 / (n + 2) % (n + 2) - 1;
                int c = at / 5 / (n + 2) / (n + 2) - 1;
                boolean there = a >= 0 && a < n && b >= 0 && b < n && c >= 0 && c < n;
                boolean others = (has[kind] > 1 || b == 0) && (has[kind] > 2 || c == 0);
                boolean unlike = (has[kind] < 2 || a != b) && (has[kind] < 3 || a != c && b != c);
                MirrorWires x = new MirrorWires();
                x.wires(n);
                int due = there && others && unlike ? 0 : MirrorWires.BAD;
                Script.due("gate(" + kind + ", " + a + ", " + b + ", " + c + "), " + n + " wires",
                        x.gate(kind, a, b, c), due);
            }
        }
        Script.on("promise 3: kinds are 0 .. 4",
                "gate(5, 0, 1, 2) = BAD", "gate(5, 0, 0, 0) = BAD", "gate(-1, 0, 0, 0) = BAD",
                "gate(-1, 0, 1, 2) = BAD", "gate(2147483647, 0, 1, 2) = BAD", "gate(-2147483648, 0, 0, 0) = BAD",
                "gate(4, 0, 1, 2) = 0", "gate(0, 0, 0, 0) = 1");
        Script.on("promise 3: wires far out",
                "gate(0, 2147483647, 0, 0) = BAD", "gate(0, -2147483648, 0, 0) = BAD",
                "gate(1, 0, 2147483647, 0) = BAD", "gate(1, 0, -2147483648, 0) = BAD",
                "gate(3, 0, 1, 2147483647) = BAD", "gate(3, 0, 1, -2147483648) = BAD", "count(1) = 0");
        Script.on("promise 3: no kind of three wires lies over two", "wires(2) = 3",
                "gate(3, 0, 1, 0) = BAD", "gate(3, 0, 1, 1) = BAD", "gate(4, 1, 0, 0) = BAD", "gate(4, 1, 0, 2) = BAD");
        Script.on("term 1: a gate is not dead at first", "gate(4, 0, 1, 2) = 0", "of(0, 4) = 0", "count(4) = 0");
    }

    private static void gateFull() {
        String[] sixteen = {"read '3:t0,t1,t2,t0,t1,t2,t0,t1,t2,t0,t1,t2,t0,t1,t2' = 15", "gate(0, 0, 0, 0) = 15"};
        Script.on("promise 3: FULL: 16", Rows.with(sixteen, "gate(0, 0, 0, 0) = FULL", "count(1) = 16",
                "of(16, 0) = BAD", "gate(4, 0, 1, 2) = FULL"));
        Script.on("promise 3: BAD is named ahead of FULL", Rows.with(sixteen, "gate(5, 0, 0, 0) = BAD",
                "gate(0, 3, 0, 0) = BAD", "gate(0, 0, 1, 0) = BAD", "gate(1, 0, 0, 0) = BAD", "gate(-1, 0, 0, 0) = BAD"));
        Script.on("promise 3: FULL changes nothing", Rows.with(sixteen, "flip(2) = 4", "gate(0, 0, 0, 0) = FULL",
                "counts = 3,16,4,0,0,1,1", "undo() = 0"));
        Script.on("promise 3: a 16th gate by a text, too", "read '2:t0,t0,t0,t0,t0,t0,t0,t0,t0,t0,t0,t0,t0,t0,t0,t0' = 16",
                "gate(0, 0, 0, 0) = FULL", "wires(2) = 2", "gate(0, 0, 0, 0) = 0");
        Script.on("promise 3: the bits stay where they stand: behind the last gate, so ahead of the new one",
                "gate(0, 0, 0, 0) = 0", "step(1) = 1", "gate(0, 1, 0, 0) = 1", "counts = 3,2,1,1,0,1,0", "step(1) = 3");
        Script.on("promise 3: the bits stay where they stand: ahead of gate 0",
                "flip(1) = 2", "gate(0, 0, 0, 0) = 0", "gate(0, 1, 0, 0) = 1", "counts = 3,2,2,0,0,1,0");
        Script.on("promise 3: the bits stay where they stand: between two gates",
                "read '3:t0,t1' = 2", "step(1) = 1", "gate(0, 2, 0, 0) = 2", "count(3) = 1", "step(2) = 7");
        Script.on("term 3: a new gate leaves nothing to be undone",
                "flip(1) = 2", "flip(0) = 3", "gate(0, 0, 0, 0) = 0", "count(6) = 0", "undo() = NONE");
        Script.on("term 3: a gate that is refused leaves what may be undone",
                "flip(1) = 2", "gate(1, 0, 0, 0) = BAD", "count(6) = 1", "undo() = 0", "count(2) = 0");
    }

    private static void of() {
        Script.on("promise 4: what is 0 .. 4",
                "read '6:p543!' = 1", "of(0, 0) = 4", "of(0, 1) = 5", "of(0, 2) = 4", "of(0, 3) = 3", "of(0, 4) = 1",
                "of(0, 5) = BAD", "of(0, -1) = BAD", "of(0, 2147483647) = BAD", "of(0, -2147483648) = BAD");
        Script.on("term 1: the wires that the kind does not have are 0",
                "read '6:t5,i54,c45,b543,p345' = 5", "of(0, 1) = 5", "of(0, 2) = 0", "of(0, 3) = 0", "of(1, 1) = 5",
                "of(1, 2) = 4", "of(1, 3) = 0", "of(2, 1) = 4", "of(2, 2) = 5", "of(2, 3) = 0", "of(3, 3) = 3",
                "of(4, 3) = 5");
        Script.on("promise 4: dead 1, else 0, as it is now",
                "read '3:t0!,t0' = 2", "of(0, 4) = 1", "of(1, 4) = 0", "heal(0) = 0", "kill(1) = 2", "of(0, 4) = 0",
                "of(1, 4) = 1");
        Script.on("promise 4: gates that were are not there any more",
                "read '3:t0,t1,t2' = 3", "read '3:t0' = 1", "of(1, 0) = BAD", "wires(3) = 3", "of(0, 0) = BAD");
    }

    /** What each kind does, written out for all states of three wires. */
    private static void does() {
        String[] texts = {"t0", "t1", "t2", "i01", "i20", "c01", "c20", "b012", "b210", "p012", "p120"};
        int[][] due = {
            {1, 0, 3, 2, 5, 4, 7, 6}, {2, 3, 0, 1, 6, 7, 4, 5}, {4, 5, 6, 7, 0, 1, 2, 3}, {0, 1, 3, 2, 4, 5, 7, 6},
            {0, 5, 2, 7, 4, 1, 6, 3}, {0, 2, 1, 3, 4, 6, 5, 7}, {0, 4, 2, 6, 1, 5, 3, 7}, {0, 1, 2, 3, 4, 5, 7, 6},
            {0, 1, 2, 7, 4, 5, 6, 3}, {0, 1, 2, 3, 4, 6, 5, 7}, {0, 1, 2, 5, 4, 3, 6, 7}};
        for (int t = 0; t < texts.length; t++) {
            MirrorWires x = new MirrorWires();
            MirrorWires dead = new MirrorWires();
            Script.read(x, "3:" + texts[t]);
            Script.read(dead, "3:" + texts[t] + "!");
            for (int s = 0; s < 8; s++) {
                Script.due(texts[t] + " does to state " + s, x.does(0, s), due[t][s]);
                Script.due(texts[t] + ", dead, does nothing to state " + s, dead.does(0, s), s);
            }
        }
        Script.on("promise 5: the highest wires and the last state of six wires",
                "read '6=1:t5,i54,c54,b543,p543' = 5", "does(0, 63) = 31", "does(1, 63) = 31", "does(1, 47) = 47",
                "does(2, 31) = 47", "does(3, 63) = 31", "does(3, 55) = 55", "does(4, 47) = 31", "does(4, 39) = 39",
                "does(4, 64) = BAD", "counts = 6,5,1,0,0,1,0");
    }

    private static void type() {
        for (int letter = -300; letter <= 70000; letter++) {
            if (letter < 32 || letter > 126) {
                int got = new MirrorWires().type(letter);
                if (got != MirrorWires.BAD) {
                    Script.due("type(" + letter + ")", got, MirrorWires.BAD);
                }
            }
        }
        MirrorWires x = new MirrorWires();
        for (int letter = 32; letter <= 126; letter++) {
            Script.due("type(" + letter + ")", x.type(letter), letter - 31);
        }
        Script.on("promise 6: BAD: not 32 .. 126",
                "type(31) = BAD", "type(127) = BAD", "type(0) = BAD", "type(-1) = BAD", "type(-2147483648) = BAD",
                "type(2147483647) = BAD", "type(65586) = BAD", "type(32) = 1", "type(126) = 2");
        String most = "3=5:t0" + " ".repeat(104);
        Script.on("promise 6: FULL: 110, and the letter is not taken",
                "type '" + most.substring(1) + "'", "type(33) = 110", "type(32) = FULL", "type(116) = FULL",
                "circuit() = -20", "type '" + most + "'", "type(44) = FULL", "circuit() = 1", "count(2) = 5");
        Script.on("promise 6: BAD is named ahead of FULL",
                "type '" + most + "'", "type(31) = BAD", "type(127) = BAD", "type(32) = FULL", "circuit() = 1");
        Script.on("promise 6: a letter that is refused is not on the tape",
                "type '3'", "type(31) = BAD", "type(58) = 2", "circuit() = 0");
        Script.on("promise 7: the tape is empty behind a circuit, and behind a fault",
                "type '3:'", "circuit() = 0", "type(51) = 1", "circuit() = -21", "type(51) = 1", "type(58) = 2",
                "circuit() = 0", "circuit() = -20");
    }

    private static void count() {
        Script.on("promise 8: what is 0 .. 6",
                "count(-1) = BAD", "count(7) = BAD", "count(2147483647) = BAD", "count(-2147483648) = BAD",
                "count(0) = 3", "count(6) = 0");
        Script.on("promise 8: behind the last one: how many there are",
                "read '3:t0,t1' = 2", "count(3) = 0", "step(1) = 1", "count(3) = 1", "step(1) = 3", "count(3) = 2");
        Script.on("promise 8: no gates: ahead of gate 0 and behind the last one at once", "count(3) = 0",
                "flip(0) = 1", "count(3) = 0", "drift(1) = 1", "count(3) = 0");
        Script.on("promise 8: sets are bits: all 16 dead, gate 15 alone, none",
                "read '2:t0!,t0!,t0!,t0!,t0!,t0!,t0!,t0!,t0!,t0!,t0!,t0!,t0!,t0!,t0!,t0!' = 16", "count(4) = 65535",
                "read '2:t0,t0,t0,t0,t0,t0,t0,t0,t0,t0,t0,t0,t0,t0,t0,t0!' = 16", "count(4) = 32768",
                "heal(15) = 0", "count(4) = 0");
        Script.on("promise 8: how many wires are set: none, all",
                "wires(6) = 3", "count(5) = 0", "read '6=63:' = 0", "count(5) = 6", "flip(5) = 31", "count(5) = 5");
        Script.on("promise 8: what may be undone: 0 to 8",
                "count(6) = 0", "flip(0) = 1", "count(6) = 1", "drift(6) = " + (1 ^ DriftRow.of(3, 0, 1, 6).bits), "count(6) = 7", "flip(0) = 1",
                "count(6) = 8", "flip(0) = 0", "count(6) = 8", "undo() = 7", "count(6) = 7");
    }
}
