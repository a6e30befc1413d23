/** Edges of promises 9 to 18, with term 3's DRIFT and UNDONE: a test for each sentence that names one. */
public final class DoneEdgesTest {
    private static final String SIXTEEN = "t0,t1,t2,t0,t1,t2,t0,t1,t2,t0,t1,t2,t0,t1,t2,t1";

    private DoneEdgesTest() { }

    public static void main(String[] args) {
        steps();
        backs();
        home();
        flip();
        killAndHeal();
        move();
        driftNumbers();
        draws();
        driftsHome();
        driftUndone();
        undoneEach();
        eightAreKnown();
        whateverWasTold();
        seed();
        Script.end();
    }

    private static void steps() {
        Script.on("promise 9: n is 1 .. 16",
                "read '3:" + SIXTEEN + "' = 16", "step(0) = BAD", "step(17) = BAD", "step(-1) = BAD",
                "step(-2147483648) = BAD", "step(2147483647) = BAD", "counts = 3,16,0,0,0,0,0", "step(16) = 5",
                "counts = 3,16,5,16,0,2,8", "back(16) = 0", "step(1) = 1");
        Script.on("promise 9: NOT: there are not so many gates ahead of them",
                "read '3:t0,t1,t2' = 3", "step(4) = NOT", "step(16) = NOT", "counts = 3,3,0,0,0,0,0", "step(1) = 1",
                "step(3) = NOT", "counts = 3,3,1,1,0,1,1", "step(2) = 7", "step(1) = NOT", "counts = 3,3,7,3,0,3,3");
        Script.on("promise 9: just so many gates ahead of them", "read '3:t0,t1,t2' = 3", "step(3) = 7", "count(3) = 3");
        Script.on("promise 9: no gates at all", "step(1) = NOT", "step(16) = NOT", "step(17) = BAD", "step(0) = BAD",
                "counts = 3,0,0,0,0,0,0");
        Script.on("promise 9: BAD is named ahead of NOT", "read '3:t0' = 1", "step(1) = 1", "step(0) = BAD",
                "step(17) = BAD", "step(-1) = BAD", "step(1) = NOT");
        Script.on("promise 9: each by itself may be undone",
                "read '3:t0,t1,t2' = 3", "step(3) = 7", "count(6) = 3", "undo() = 2", "counts = 3,3,3,2,0,2,2",
                "undo() = 1", "counts = 3,3,1,1,0,1,1", "undo() = 0", "counts = 3,3,0,0,0,0,0");
        Script.on("promise 9: a dead gate is passed, and that may be undone",
                "read '3:t0!' = 1", "step(1) = 0", "counts = 3,1,0,1,1,0,1", "undo() = 0", "count(3) = 0");
    }

    private static void backs() {
        Script.on("promise 10: n is 1 .. 16",
                "read '3:" + SIXTEEN + "' = 16", "step(16) = 5", "back(0) = BAD", "back(17) = BAD", "back(-1) = BAD",
                "back(-2147483648) = BAD", "back(2147483647) = BAD", "counts = 3,16,5,16,0,2,8", "back(16) = 0",
                "counts = 3,16,0,0,0,0,8");
        Script.on("promise 10: NOT: there are not so many gates behind them",
                "read '3:t0,t1,t2' = 3", "back(1) = NOT", "back(16) = NOT", "step(2) = 3", "back(3) = NOT",
                "counts = 3,3,3,2,0,2,2", "back(2) = 0", "counts = 3,3,0,0,0,0,4", "back(1) = NOT");
        Script.on("promise 10: no gates at all", "back(1) = NOT", "back(16) = NOT", "back(17) = BAD", "back(0) = BAD");
        Script.on("promise 10: BAD is named ahead of NOT", "read '3:t0' = 1", "back(0) = BAD", "back(17) = BAD",
                "back(-1) = BAD", "back(1) = NOT");
        Script.on("promise 10: each by itself may be undone",
                "read '3=7:t0,t1,t2' = 3", "step(3) = 0", "back(3) = 7", "count(6) = 6", "undo() = 5",
                "counts = 3,3,6,1,0,2,5", "undo() = 4", "counts = 3,3,4,2,0,1,4", "undo() = 3",
                "counts = 3,3,0,3,0,0,3");
        Script.on("promise 10: a dead gate is passed",
                "read '3=2:t0!,t1!' = 2", "step(2) = 2", "back(1) = 2", "count(3) = 1", "back(1) = 2", "count(3) = 0");
        Script.on("promise 10: a step back takes the bits back, by each kind",
                "read '3=3:t2,i01,c12,b012,p021' = 5", "step(5) = 7", "back(5) = 3", "read '3=3:p021' = 1",
                "step(1) = 6", "back(1) = 3", "read '3=1:c02' = 1", "step(1) = 4", "back(1) = 1");
    }

    private static void home() {
        Script.on("promise 11: NOT: ahead of gate 0",
                "home() = NOT", "read '3:t0,t1' = 2", "home() = NOT", "step(1) = 1", "back(1) = 0", "home() = NOT",
                "counts = 3,2,0,0,0,0,2");
        Script.on("promise 11: ahead of which gate they stood; the bits as they are",
                "read '3:t0,t1' = 2", "step(1) = 1", "home() = 1", "counts = 3,2,1,0,0,1,2", "step(2) = 2",
                "home() = 2", "counts = 3,2,2,0,0,1,5", "undo() = 4", "counts = 3,2,2,2,0,1,4");
        Script.on("promise 11: from behind a 16th gate", "read '3:" + SIXTEEN + "' = 16", "step(16) = 5", "home() = 16",
                "counts = 3,16,5,0,0,2,8");
    }

    private static void flip() {
        for (int n = 2; n <= 6; n++) {
            MirrorWires x = new MirrorWires();
            x.wires(n);
            for (int wire = 0; wire < n; wire++) {
                Script.due("flip of " + wire, x.flip(wire), (2 << wire) - 1);
            }
            for (int none : new int[] {n, -1, 31, 32, Integer.MIN_VALUE, Integer.MAX_VALUE}) {
                Script.due("flip of " + none, x.flip(none), MirrorWires.BAD);
                Script.due("bits behind it", x.count(2), (1 << n) - 1);
                Script.due("undone behind it", x.count(6), n);
            }
            for (int wire = n - 1; wire >= 0; wire--) {
                Script.due("flip back of " + wire, x.flip(wire), (1 << wire) - 1);
            }
        }
        Script.on("promise 12: the bits stay where they stand, and it may be undone",
                "read '3:t0,t1' = 2", "step(1) = 1", "flip(2) = 5", "count(3) = 1", "undo() = 1",
                "counts = 3,2,1,1,0,1,1");
    }

    private static void killAndHeal() {
        Script.on("promise 13: NOT: it is; and nothing is done",
                "read '3:t0!,t1' = 2", "kill(0) = NOT", "counts = 3,2,0,0,1,0,0", "kill(1) = 3", "kill(1) = NOT",
                "counts = 3,2,0,0,3,0,1");
        Script.on("promise 14: NOT: it is not; and nothing is done",
                "read '3:t0!,t1' = 2", "heal(1) = NOT", "counts = 3,2,0,0,1,0,0", "heal(0) = 0", "heal(0) = NOT",
                "counts = 3,2,0,0,0,0,1");
        Script.on("promises 13 and 14: BAD: there is no such gate",
                "kill(0) = BAD", "heal(0) = BAD", "read '3:t0' = 1", "kill(1) = BAD", "heal(1) = BAD", "kill(-1) = BAD",
                "heal(-1) = BAD", "kill(16) = BAD", "heal(16) = BAD", "kill(2147483647) = BAD", "heal(-2147483648) = BAD",
                "count(6) = 0");
        Script.on("promises 13 and 14: sets are bits: gate 0 and gate 15",
                "read '3:" + SIXTEEN + "' = 16", "kill(15) = 32768", "kill(0) = 32769", "heal(15) = 1", "heal(0) = 0",
                "count(6) = 4", "undo() = 3", "count(4) = 1", "undo() = 2", "count(4) = 32769", "undo() = 1",
                "count(4) = 32768", "undo() = 0", "count(4) = 0");
        Script.on("promise 13: a gate that the bits have passed; they stay as they are",
                "read '3:t0,t1' = 2", "step(2) = 3", "kill(0) = 1", "counts = 3,2,3,2,1,2,3", "back(2) = 1");
    }

    private static void move() {
        Script.on("promise 15: BAD: alike numbers, too",
                "read '3:t0,t1' = 2", "move(0, 0) = BAD", "move(1, 1) = BAD", "move(2, 2) = BAD", "move(-1, -1) = BAD",
                "count(6) = 0");
        Script.on("promise 15: BAD: there is no such gate",
                "move(0, 1) = BAD", "read '3:t0,t1' = 2", "move(0, 2) = BAD", "move(2, 0) = BAD", "move(-1, 0) = BAD",
                "move(0, -1) = BAD", "move(16, 0) = BAD", "move(0, 2147483647) = BAD", "move(-2147483648, 1) = BAD",
                "of(0, 1) = 0", "count(6) = 0");
        Script.on("promise 15: the first and the 16th gate, with all that is theirs",
                "read '3:b012!,t1,t2,t0,t1,t2,t0,t1,t2,t0,t1,t2,t0,t1,t2,c21' = 16", "move(15, 0) = 1", "of(0, 0) = 2",
                "of(0, 1) = 2", "of(0, 2) = 1", "of(0, 3) = 0", "of(0, 4) = 0", "of(15, 0) = 3", "of(15, 1) = 0",
                "of(15, 2) = 1", "of(15, 3) = 2", "of(15, 4) = 1", "count(4) = 32768", "move(0, 15) = 1",
                "count(4) = 1", "of(0, 0) = 3", "count(6) = 2");
        Script.on("promise 15: the bits stay where they stand, though gates behind and ahead change places",
                "read '3:t0,t1' = 2", "step(1) = 1", "move(0, 1) = 1", "counts = 3,2,1,1,0,1,2", "step(1) = 0",
                "undo() = 2", "undo() = 1", "of(0, 1) = 0");
        Script.on("promise 15: two gates of one make: that may be undone, too",
                "read '3:t0,t0' = 2", "move(0, 1) = 1", "count(6) = 1", "undo() = 0", "undo() = NONE");
    }

    private static void driftNumbers() {
        Script.on("promise 16: n is 1 .. 40",
                "read '3:t0,t1' = 2", "drift(0) = BAD", "drift(41) = BAD", "drift(-1) = BAD", "drift(-2147483648) = BAD",
                "drift(2147483647) = BAD", "counts = 3,2,0,0,0,0,0", "seed(1) = 1", "drift(1) = 1", "count(6) = 1");
        Script.on("promise 16: 40 turns on three places end ahead of gate 1", "read '3:t0!,t1!' = 2",
                "seed(65536) = 1", "drift(40) = " + DriftRow.of(3, 2, 65536, 40).bits, "count(3) = 1", "count(6) = 8");
    }

    /** Draws at the ends of 31 bits: what becomes of them, and the wire that they flip. */
    private static void draws() {
        Script.on("term 3: itself times 1103515245 and 12345 more, of 0",
                "seed(0) = 1", "drift(1) = 1", "seed(0) = 12345");
        Script.on("term 3: the lowest 31 bits, of the highest draw",
                "seed(2147483647) = 1", "drift(1) = " + DriftRow.of(3, 0, 2147483647, 1).bits, "seed(0) = 1043980748");
        for (int n = 2; n <= 6; n++) {
            for (int from : new int[] {0, 1, 2, 77, 65535, 65536, 1073741824, 2147483646, 2147483647}) {
                MirrorWires x = new MirrorWires();
                Script.read(x, n + ":t0!,t1!,t0!");
                x.seed(from);
                for (int turns = 1; turns <= 40; turns++) {
                    DriftRow due = DriftRow.of(n, 3, from, turns);
                    Script.due("drift from " + from + " over " + n + " wires, turn " + turns, x.drift(1), due.bits);
                    Script.due("where they stand then", x.count(3), due.place);
                    Script.due("the draw then", x.seed(due.draw), due.draw);
                }
            }
        }
    }

    private static void driftsHome() {
        Script.on("term 3: where the bits stand behind the last gate, they are home instead",
                "read '3:t0,t1' = 2", "step(2) = 3", "drift(1) = 3", "counts = 3,2,3,0,0,2,3", "undo() = 2",
                "count(3) = 2");
        Script.on("term 3: home instead of the step, but not of what is flipped",
                "read '3:t1' = 1", "step(1) = 2", "seed(0) = 1", "drift(1) = 3", "counts = 3,1,3,0,0,2,2", "undo() = 1",
                "counts = 3,1,2,1,0,1,1", "seed(1) = 0");
        Script.on("term 3: no gates: home each time, and each may be undone",
                "drift(1) = 0", "counts = 3,0,0,0,0,0,1", "drift(7) = " + DriftRow.of(3, 0, 1, 8).bits, "count(6) = 8",
                "count(3) = 0");
        Script.on("term 3: what is flipped is flipped ahead of the step",
                "read '3:i10' = 1", "seed(0) = 1", "drift(1) = 3", "undo() = 0", "count(2) = 0");
    }

    private static void driftUndone() {
        Script.on("promise 16: each step with what is flipped is one that may be undone",
                "read '3:t1,t2' = 2", "seed(0) = 1", "drift(1) = 3", "count(6) = 1", "undo() = 0",
                "counts = 3,2,0,0,0,0,0", "seed(1) = 0");
        MirrorWires x = new MirrorWires();
        Script.read(x, "4:t0!,t1!");
        x.seed(5);
        x.drift(20);
        for (int turns = 19; turns >= 12; turns--) {
            DriftRow due = DriftRow.of(4, 2, 5, turns);
            Script.due("undone, back to turn " + turns, x.undo(), turns - 12);
            Script.due("the bits then", x.count(2), due.bits);
            Script.due("where they stand then", x.count(3), due.place);
            Script.due("the draw then", x.seed(due.draw), due.draw);
        }
        Script.due("older ones are lost", x.undo(), MirrorWires.NONE);
    }

    private static void undoneEach() {
        Script.on("term 3: a step is undone", "read '3:t0' = 1", "step(1) = 1", "undo() = 0", "counts = 3,1,0,0,0,0,0");
        Script.on("term 3: a step back is undone", "read '3:t0' = 1", "step(1) = 1", "back(1) = 0", "undo() = 1",
                "counts = 3,1,1,1,0,1,1");
        Script.on("term 3: home is undone", "read '3:t0' = 1", "step(1) = 1", "home() = 1", "undo() = 1",
                "counts = 3,1,1,1,0,1,1");
        Script.on("term 3: what is flipped is undone", "flip(2) = 4", "undo() = 0", "counts = 3,0,0,0,0,0,0");
        Script.on("term 3: what is killed is undone", "read '3:t0' = 1", "kill(0) = 1", "undo() = 0",
                "counts = 3,1,0,0,0,0,0");
        Script.on("term 3: what is healed is undone", "read '3:t0!' = 1", "heal(0) = 0", "undo() = 0",
                "counts = 3,1,0,0,1,0,0");
        Script.on("term 3: what is moved is undone", "read '3:t0,t1' = 2", "move(0, 1) = 1", "undo() = 0",
                "of(0, 1) = 0", "of(1, 1) = 1");
        Script.on("promise 17: NONE: none is known", "undo() = NONE", "flip(0) = 1", "undo() = 0", "undo() = NONE",
                "counts = 3,0,0,0,0,0,0");
        Script.on("promise 17: what is undone can't be undone, and what is done then can",
                "flip(0) = 1", "flip(1) = 3", "undo() = 1", "flip(2) = 5", "count(6) = 2", "undo() = 1", "count(2) = 1",
                "undo() = 0", "count(2) = 0", "undo() = NONE");
        Script.on("promise 17: what is refused is none that may be undone",
                "read '3:t0!' = 1", "step(2) = NOT", "back(1) = NOT", "home() = NOT", "flip(3) = BAD", "kill(0) = NOT",
                "kill(1) = BAD", "move(0, 0) = BAD", "drift(0) = BAD", "drift(41) = BAD", "undo() = NONE");
    }

    private static void eightAreKnown() {
        for (int done = 1; done <= 30; done++) {
            MirrorWires x = new MirrorWires();
            x.wires(6);
            int[] bits = new int[done + 1];
            for (int d = 1; d <= done; d++) {
                bits[d] = x.flip(d * 5 % 6);
            }
            int known = Math.min(done, 8);
            Script.due(done + " done, known are", x.count(6), known);
            for (int u = 1; u <= known; u++) {
                Script.due(done + " done, undone", x.undo(), known - u);
                Script.due(done + " done, the bits then", x.count(2), bits[done - u]);
            }
            Script.due(done + " done, older ones lost", x.undo(), MirrorWires.NONE);
            Script.due(done + " done, nothing more is undone", x.count(2), bits[done - known]);
        }
        Script.on("term 3: of 16 steps at once 8 are known", "read '3:" + SIXTEEN + "' = 16", "step(16) = 5",
                "undo() = 7", "undo() = 6", "undo() = 5", "undo() = 4", "undo() = 3", "undo() = 2", "undo() = 1",
                "undo() = 0", "undo() = NONE", "counts = 3,16,3,8,0,2,0");
    }

    private static void whateverWasTold() {
        Script.on("term 3: the draw is as ahead of it, though it was told since",
                "seed(6) = 1", "flip(0) = 1", "seed(9) = 6", "seed(10) = 9", "undo() = 0", "seed(1) = 6");
        Script.on("term 3: a seed told is no deed of its own", "seed(6) = 1", "count(6) = 0", "undo() = NONE",
                "seed(1) = 6");
        Script.on("term 3: where they stand and all gates are as ahead of it",
                "read '3:t0,i12!' = 2", "step(2) = 1", "kill(0) = 3", "move(0, 1) = 1", "home() = 2", "heal(0) = 2",
                "undo() = 5", "counts = 3,2,1,0,3,1,5", "undo() = 4", "count(3) = 2", "undo() = 3", "of(0, 0) = 0",
                "of(1, 0) = 1", "undo() = 2", "counts = 3,2,1,2,2,1,2");
        Script.on("term 3: the image, the tape and the sheets are none of what is undone",
                "flip(0) = 1", "image() = 1", "type '3'", "sheet(0, 0, 7) = 7", "flip(1) = 3", "undo() = 1", "undo() = 0",
                "type(58) = 2", "drop(0) = 7", "restore() = 1", "counts = 3,0,1,0,0,1,1");
        Script.on("term 3: a circuit told, wires told, a new gate leave nothing to be undone",
                "flip(0) = 1", "read '3:' = 0", "undo() = NONE", "flip(0) = 1", "wires(3) = 3", "undo() = NONE",
                "flip(0) = 1", "gate(0, 0, 0, 0) = 0", "undo() = NONE", "count(2) = 1");
        Script.on("term 3: what is foretold leaves what may be undone",
                "flip(0) = 1", "order() = 1", "pair() = NONE", "rings(0) = 8", "image() = 1", "seed(3) = 1", "count(6) = 1",
                "undo() = 0");
    }

    private static void seed() {
        Script.on("promise 18: BAD: below 0, and the draw stays",
                "seed(-1) = BAD", "seed(-2147483648) = BAD", "seed(0) = 1", "seed(-1) = BAD", "seed(2147483647) = 0",
                "seed(1) = 2147483647");
    }
}
