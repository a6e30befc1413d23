/** Promises 9 to 18: step, back, home, flip, kill, heal, move, drift, undo, seed. */
public final class DoneTest {
    private DoneTest() { }

    public static void main(String[] args) {
        steps();
        Script.on("promise 11: home",
                "read '3:t0,t1,t2' = 3", "home() = NOT", "count(6) = 0", "step(2) = 3", "home() = 2", "count(2) = 3",
                "count(3) = 0", "count(6) = 3", "home() = NOT", "undo() = 2", "count(3) = 2", "count(2) = 3");
        Script.on("promise 12: flip",
                "flip(0) = 1", "flip(2) = 5", "flip(0) = 4", "flip(3) = BAD", "flip(-1) = BAD", "count(6) = 3",
                "undo() = 2", "count(2) = 5", "wires(4) = 3", "flip(3) = 8");
        killed();
        moved();
        drift();
        undo();
        Script.on("promise 18: seed",
                "seed(0) = 1", "seed(2147483647) = 0", "seed(-1) = BAD", "seed(-2147483648) = BAD",
                "seed(3) = 2147483647", "seed(3) = 3", "count(6) = 0");
        Script.end();
    }

    private static void steps() {
        Script.on("promises 9 and 10: step, back",
                "read '3=1:i10,b210,c02,t0!,t1' = 5",
                "step(0) = BAD", "step(17) = BAD", "step(-1) = BAD", "back(0) = BAD", "back(17) = BAD", "back(-1) = BAD",
                "step(6) = NOT", "step(16) = NOT", "back(1) = NOT", "back(16) = NOT", "count(6) = 0", "count(2) = 1",
                "step(1) = 3", "count(3) = 1", "count(6) = 1", "step(1) = 7", "back(1) = 3", "back(2) = NOT",
                "back(1) = 1", "count(3) = 0", "step(5) = 5", "step(1) = NOT", "count(3) = 5", "count(6) = 8",
                "back(2) = 7", "back(3) = 1", "count(3) = 0");
        Script.on("promises 9 and 10: each step by itself may be undone",
                "read '3:t0,t1,t2' = 3", "step(3) = 7", "count(6) = 3", "undo() = 2", "count(2) = 3", "count(3) = 2",
                "back(2) = 0", "count(6) = 4", "undo() = 3", "count(2) = 1", "count(3) = 1", "undo() = 2",
                "undo() = 1", "count(2) = 1", "undo() = 0", "count(2) = 0", "undo() = NONE");
        Script.on("promise 10: a step back goes through the gate behind which the bits stand, as it is now",
                "read '3:t0,t1' = 2", "step(2) = 3", "kill(1) = 2", "back(1) = 3", "flip(2) = 7", "back(1) = 6");
    }

    private static void killed() {
        Script.on("promises 13 and 14: kill, heal",
                "read '3:t0,t1!,t2' = 3", "kill(0) = 3", "kill(0) = NOT", "kill(1) = NOT", "kill(3) = BAD",
                "kill(-1) = BAD", "count(6) = 1", "kill(2) = 7", "step(3) = 0", "heal(1) = 5", "heal(1) = NOT",
                "heal(3) = BAD", "heal(-1) = BAD", "count(4) = 5", "of(1, 4) = 0", "of(0, 4) = 1", "count(6) = 6",
                "undo() = 5", "count(4) = 7", "back(2) = 0", "heal(2) = 3", "step(2) = 4");
    }

    private static void moved() {
        Script.on("promise 15: move",
                "read '3:t0,b210!,i12' = 3", "step(1) = 1", "move(0, 1) = 1", "count(3) = 1", "count(2) = 1",
                "of(0, 0) = 3", "of(0, 1) = 2", "of(0, 2) = 1", "of(0, 3) = 0", "of(0, 4) = 1", "of(1, 0) = 0",
                "of(1, 1) = 0", "of(1, 4) = 0", "count(4) = 1", "move(2, 0) = 1", "count(4) = 4", "of(0, 0) = 1",
                "move(1, 1) = BAD", "move(0, 3) = BAD", "move(3, 0) = BAD", "move(-1, 0) = BAD", "move(0, -1) = BAD",
                "count(6) = 3", "undo() = 2", "count(4) = 1", "undo() = 1", "count(4) = 2", "of(0, 0) = 0");
    }

    /** The draws behind a seed of 1 are 1103527590, 377401575, 662824084, ..: the third flips wire 0 of 3. */
    private static void drift() {
        Script.on("promise 16: drift",
                "read '3:t0,t2' = 2", "drift(0) = BAD", "drift(41) = BAD", "drift(-1) = BAD", "count(6) = 0",
                "drift(1) = 1", "count(3) = 1", "count(6) = 1", "seed(1103527590) = 1103527590");
        MirrorWires x = new MirrorWires();
        Script.read(x, "3:t0,t2");
        long draw = 1;
        int bits = 0;
        int place = 0;
        for (int turn = 0; turn < 40; turn++) {
            draw = (draw * 1103515245L + 12345L) % 2147483648L;
            if (draw / 65536 % 3 == 0) {
                bits ^= 1 << (int) (draw / 256 % 3);
            }
            bits ^= place == 0 ? 1 : place == 1 ? 4 : 0;
            place = place == 2 ? 0 : place + 1;
            Script.due("drift(1), turn " + turn, x.drift(1), bits);
            Script.due("place, turn " + turn, x.count(3), place);
        }
        Script.due("the draw then", x.seed(1), draw);
        Script.due("undone", x.undo(), 7);
        MirrorWires y = new MirrorWires();
        Script.read(y, "3:t0,t2");
        Script.due("drift(40)", y.drift(40), bits);
        Script.due("it knows", y.count(6), 8);
        Script.due("the draw of drift(40)", y.seed(7), draw);
        Script.on("promise 16: with no gates the bits are home each time, and that may be undone",
                "drift(2) = 0", "drift(1) = 1", "count(3) = 0", "count(6) = 3", "undo() = 2", "count(2) = 0",
                "seed(1) = 377401575");
        Script.on("promise 16: undoing a turn of a drift brings back the draw ahead of it, and what was flipped",
                "read '6:t0' = 1", "drift(2) = 1", "undo() = 1", "count(2) = 1", "seed(5) = 1103527590", "undo() = 0",
                "seed(8) = 1", "count(2) = 0", "count(3) = 0");
    }

    private static void undo() {
        Script.on("promise 17: undo",
                "undo() = NONE", "flip(0) = 1", "undo() = 0", "undo() = NONE", "count(2) = 0");
        Script.on("promise 17: 8 are known",
                "flip(0) = 1", "flip(1) = 3", "flip(2) = 7", "flip(0) = 6", "flip(1) = 4", "flip(2) = 0", "flip(0) = 1",
                "flip(1) = 3", "count(6) = 8", "flip(2) = 7", "count(6) = 8", "undo() = 7", "count(2) = 3",
                "undo() = 6", "undo() = 5", "undo() = 4", "count(2) = 4", "undo() = 3", "undo() = 2", "undo() = 1",
                "undo() = 0", "count(2) = 1", "undo() = NONE");
        Script.on("promise 17: the draw is as ahead of it, whatever was told since",
                "seed(6) = 1", "flip(0) = 1", "seed(9) = 6", "undo() = 0", "seed(1) = 6");
        Script.on("promise 17: what leaves nothing to be undone",
                "flip(0) = 1", "wires(3) = 3", "undo() = NONE", "flip(0) = 1", "gate(0, 0, 0, 0) = 0", "undo() = NONE",
                "flip(1) = 3", "read '3:' = 0", "undo() = NONE", "flip(1) = 2", "read '3' = -21", "undo() = 0");
    }
}
