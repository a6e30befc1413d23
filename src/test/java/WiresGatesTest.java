/** Promises 1 to 6 and 8: a new object, wires, gate, of, does, type, count. */
public final class WiresGatesTest {
    private WiresGatesTest() { }

    public static void main(String[] args) {
        Script.on("promise 1: a new object",
                "count(0) = 3", "count(1) = 0", "count(2) = 0", "count(3) = 0", "count(4) = 0", "count(5) = 0",
                "count(6) = 0", "seed(9) = 1", "undo() = NONE", "restore() = NONE", "drop(0) = NULL",
                "drop(3) = NULL", "type(58) = 1");
        wires();
        gate();
        Script.on("promise 4: of",
                "read '4:p321!,t3,i02' = 3",
                "of(0, 0) = 4", "of(0, 1) = 3", "of(0, 2) = 2", "of(0, 3) = 1", "of(0, 4) = 1",
                "of(1, 0) = 0", "of(1, 1) = 3", "of(1, 2) = 0", "of(1, 3) = 0", "of(1, 4) = 0",
                "of(2, 1) = 0", "of(2, 2) = 2", "of(2, 3) = 0",
                "of(3, 0) = BAD", "of(-1, 0) = BAD", "of(0, -1) = BAD", "of(0, 5) = BAD", "of(16, 0) = BAD");
        does();
        Script.on("promise 6: type",
                "type(32) = 1", "type(126) = 2", "type(31) = BAD", "type(127) = BAD", "type(-1) = BAD",
                "type(65536) = BAD", "type(33) = 3", "circuit() = -21", "type(50) = 1");
        tapeIsFull();
        Script.on("promise 8: count",
                "read '6=45:t0!,t1,t2,t3,t4,t5!' = 6",
                "count(0) = 6", "count(1) = 6", "count(2) = 45", "count(3) = 0", "count(4) = 33", "count(5) = 4",
                "count(6) = 0", "step(6) = 51", "count(2) = 51", "count(3) = 6", "count(5) = 4", "count(6) = 6",
                "count(-1) = BAD", "count(7) = BAD");
        Script.end();
    }

    private static void wires() {
        Script.on("promise 2: wires",
                "wires(6) = 3", "flip(5) = 32", "gate(0, 5, 0, 0) = 0", "step(1) = 0", "flip(3) = 8",
                "seed(77) = 1", "count(6) = 2",
                "wires(1) = BAD", "wires(7) = BAD", "wires(-1) = BAD", "count(0) = 6", "count(6) = 2",
                "wires(2) = 6", "count(0) = 2", "count(1) = 0", "count(2) = 0", "count(3) = 0", "count(6) = 0",
                "undo() = NONE", "seed(1) = 77", "flip(2) = BAD", "flip(1) = 2", "wires(2) = 2", "count(2) = 0");
    }

    private static void gate() {
        Script.on("promise 3: gate",
                "flip(0) = 1", "seed(5) = 1", "gate(0, 2, 0, 0) = 0", "undo() = NONE", "seed(5) = 5", "count(2) = 1",
                "gate(1, 1, 2, 0) = 1", "gate(2, 2, 0, 0) = 2", "gate(3, 0, 1, 2) = 3", "gate(4, 2, 1, 0) = 4",
                "gate(-1, 0, 0, 0) = BAD", "gate(5, 0, 1, 2) = BAD", "gate(0, 3, 0, 0) = BAD",
                "gate(0, -1, 0, 0) = BAD", "gate(1, 0, 3, 0) = BAD", "gate(1, 0, -1, 0) = BAD",
                "gate(3, 0, 1, 3) = BAD", "gate(3, 0, 1, -1) = BAD",
                "gate(0, 1, 2, 0) = BAD", "gate(0, 1, 0, 2) = BAD", "gate(1, 1, 2, 2) = BAD", "gate(2, 1, 2, 2) = BAD",
                "gate(1, 1, 1, 0) = BAD", "gate(2, 0, 0, 0) = BAD", "gate(3, 0, 0, 1) = BAD", "gate(3, 0, 1, 0) = BAD",
                "gate(3, 1, 0, 0) = BAD", "gate(4, 2, 1, 1) = BAD", "count(1) = 5");
        Script.on("promise 3: the bits stay where they stand, and nothing is left to be undone",
                "gate(0, 0, 0, 0) = 0", "step(1) = 1", "count(6) = 1", "gate(1, 1, 0, 0) = 1", "count(3) = 1",
                "count(6) = 0", "count(2) = 1", "step(1) = 3");
        Script.on("promise 3: what is refused leaves what may be undone",
                "flip(0) = 1", "gate(0, 3, 0, 0) = BAD", "count(6) = 1");
        MirrorWires x = new MirrorWires();
        for (int g = 0; g < 16; g++) {
            Script.due("gate " + g, x.gate(0, g % 3, 0, 0), g);
        }
        x.flip(0);
        Script.due("a 17th gate", x.gate(0, 0, 0, 0), -3);
        Script.due("a bad 17th gate", x.gate(0, 3, 0, 0), -1);
        Script.due("gates then", x.count(1), 16);
        Script.due("undone behind FULL", x.count(6), 1);
    }

    private static void does() {
        Script.on("promise 5: does",
                "read '3:t1,i20,c02,b012,p012,t0!' = 6",
                "does(0, 0) = 2", "does(0, 7) = 5", "does(0, 2) = 0",
                "does(1, 0) = 0", "does(1, 1) = 5", "does(1, 5) = 1", "does(1, 4) = 4",
                "does(2, 1) = 4", "does(2, 4) = 1", "does(2, 5) = 5", "does(2, 3) = 6",
                "does(3, 6) = 7", "does(3, 7) = 6", "does(3, 4) = 4", "does(3, 2) = 2",
                "does(4, 5) = 6", "does(4, 6) = 5", "does(4, 1) = 1", "does(4, 7) = 7", "does(4, 4) = 4",
                "does(5, 0) = 0", "does(5, 7) = 7", "heal(5) = 0", "does(5, 0) = 1",
                "does(6, 0) = BAD", "does(-1, 0) = BAD", "does(0, 8) = BAD", "does(0, -1) = BAD", "count(2) = 0");
    }

    private static void tapeIsFull() {
        MirrorWires x = new MirrorWires();
        for (int letter = 1; letter <= 110; letter++) {
            Script.due("letter " + letter, x.type(32), letter);
        }
        Script.due("a 111th letter", x.type(51), -3);
        Script.due("a bad 111th letter", x.type(127), -1);
        Script.due("110 blanks", x.circuit(), -130);
        Script.due("behind it", x.type(51), 1);
    }
}
