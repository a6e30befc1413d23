/** Promises 19 to 34: goes to likely, image, restore. */
public final class ForetoldTest {
    private ForetoldTest() { }

    public static void main(String[] args) {
        runs();
        rings();
        gates();
        wires();
        ways();
        shown();
        likely();
        images();
        Script.end();
    }

    /** t0,i10 on two wires adds 1 to a state, so 0, 3, 2, 1 go round by its mirror i10,t0. */
    private static void runs() {
        Script.on("promises 19 to 21: goes, far, ring",
                "read '2:i10,t0' = 2", "goes(0, 0) = 1", "goes(1, 0) = 2", "goes(2, 0) = 3", "goes(3, 0) = 0",
                "goes(0, 1) = 3", "goes(1, 1) = 0", "goes(2, 1) = 1", "goes(3, 1) = 2",
                "goes(4, 0) = BAD", "goes(-1, 0) = BAD", "goes(0, 2) = BAD", "goes(0, -1) = BAD",
                "far(1, 0) = 1", "far(1, 1) = 2", "far(1, 5) = 2", "far(1, 2000000000) = 1", "far(1, 1999999999) = 0",
                "far(1, 2000000001) = BAD", "far(1, -1) = BAD", "far(4, 1) = BAD", "far(-1, 1) = BAD",
                "ring(0) = 4", "ring(3) = 4", "ring(4) = BAD", "ring(-1) = BAD",
                "kill(1) = 2", "ring(0) = 1", "ring(1) = 2", "far(1, 3) = 3", "far(0, 3) = 0", "goes(1, 1) = 3",
                "count(2) = 0", "count(3) = 0",
                "read '3:t0,t1,t2' = 3", "read '3:i10' = 1", "goes(1, 1) = 3", "goes(0, 1) = 0", "goes(0, 0) = 0");
        Script.on("promises 19 to 21: six wires go round as a whole",
                "read '6:b543,b432,b321,b210,i10,t0' = 6", "goes(63, 0) = 0", "goes(64, 0) = BAD", "ring(64) = BAD",
                "far(64, 1) = BAD", "far(63, 0) = 63");
    }

    private static void rings() {
        Script.on("promises 22 to 24: rings, order, odd",
                "rings(0) = 8", "rings(1) = 1", "rings(2) = 8", "order() = 1", "odd() = 0",
                "read '2:i10,t0' = 2", "rings(0) = 1", "rings(1) = 4", "rings(2) = 0", "order() = 4", "odd() = 1",
                "read '3:c01,c12' = 2", "rings(0) = 4", "rings(1) = 3", "rings(2) = 2", "order() = 3", "odd() = 0",
                "read '5:c01,c12,c34' = 3", "order() = 6", "rings(1) = 6", "rings(2) = 4", "odd() = 0",
                "read '3:b012' = 1", "odd() = 1", "rings(0) = 7", "order() = 2",
                "read '4:b012' = 1", "odd() = 0", "rings(0) = 14",
                "rings(3) = BAD", "rings(-1) = BAD");
    }

    private static void gates() {
        Script.on("promise 25: alike",
                "read '3:t0,t1,i10,i01,t0!' = 5", "alike(0, 1) = 1", "alike(1, 0) = 1", "alike(1, 2) = 1",
                "alike(0, 2) = 0", "alike(2, 3) = 0", "alike(0, 4) = 0", "alike(0, 0) = BAD", "alike(0, 5) = BAD",
                "alike(5, 0) = BAD", "alike(-1, 0) = BAD", "alike(0, -1) = BAD", "of(0, 0) = 0", "of(1, 1) = 1",
                "read '3:t0,t1!' = 2", "alike(0, 1) = 1", "read '2:i10,t0,i10' = 3", "alike(0, 2) = 1",
                "alike(1, 2) = 0");
        Script.on("promise 26: pair",
                "pair() = NONE", "read '3:t0' = 1", "pair() = NONE", "read '3:t0,t0' = 2", "pair() = 1",
                "read '3:t0,t0!' = 2", "pair() = NONE", "read '3:t1,t0!,i20,t1' = 4", "pair() = 3",
                "read '3:i10,t0,i10,t2,t2' = 5", "pair() = 304", "read '3:t0,t1,t1,t0' = 4", "pair() = 3",
                "read '3:t0,i10,t1,i10,i10' = 5", "pair() = 103", "read '3:t2,c01,t0,t1,c10' = 5", "pair() = 104",
                "read '3:t2,c01,t0,c10' = 4", "pair() = NONE",
                "read '2:t1!,t1!,t1!,t1!,t0,i10,t1,i01!,t0!,t0!,t0!,t0!,t0!,t1' = 14", "pair() = 613");
    }

    private static void wires() {
        Script.on("promise 27: hangs",
                "hangs(0, 0) = 1", "hangs(2, 0) = 4", "hangs(2, 1) = 0",
                "read '3:t0,i10,b210' = 3", "hangs(0, 0) = 1", "hangs(0, 1) = 8", "hangs(1, 0) = 3", "hangs(1, 1) = 4",
                "hangs(2, 0) = 7", "hangs(2, 1) = 2", "hangs(3, 0) = BAD", "hangs(-1, 0) = BAD", "hangs(0, 2) = BAD",
                "hangs(0, -1) = BAD", "read '2:c01' = 1", "hangs(0, 0) = 2", "hangs(0, 1) = 2", "hangs(1, 0) = 1");
    }

    private static void ways() {
        Script.on("promises 28 and 29: way, reach",
                "way(3, 3, -1) = 0", "way(3, 3, 0) = NONE", "way(3, 2, -1) = NONE", "way(3, 2, 0) = NONE",
                "reach(3) = 1", "reach(8) = BAD", "reach(-1) = BAD",
                "read '3:i10,t1!,t0,i20,t0,i21' = 6",
                "way(0, 7, -1) = 3", "way(0, 7, 0) = 2", "way(0, 7, 1) = 0", "way(0, 7, 2) = 3", "way(0, 7, 3) = NONE",
                "way(0, 2, -1) = 3", "way(0, 2, 0) = 2", "way(0, 2, 1) = 0", "way(0, 2, 2) = 2",
                "way(0, 1, -1) = 1", "way(0, 1, 0) = 2", "way(0, 1, 1) = NONE", "way(0, 0, -1) = 0",
                "way(0, 8, -1) = BAD", "way(8, 0, -1) = BAD", "way(-1, 0, -1) = BAD", "way(0, -1, -1) = BAD",
                "way(0, 0, -2) = BAD", "way(0, 1, 2147483647) = NONE", "reach(0) = 8",
                "kill(2) = 6", "kill(4) = 22", "reach(0) = 1", "reach(1) = 4", "way(1, 5, -1) = 1", "way(1, 5, 0) = 3",
                "way(1, 0, -1) = NONE", "way(1, 0, 0) = NONE", "reach(2) = 2");
        Script.on("promise 28: of like ones the first row",
                "read '3:t1,t0,t1' = 3", "way(0, 3, 0) = 0", "way(0, 3, 1) = 1", "way(3, 0, 0) = 0");
    }

    private static void shown() {
        Script.on("promises 30 and 31: shows, telling",
                "telling(0) = 0", "telling(1) = 0", "shows(7) = 0",
                "read '3:i10,b210,t2!,i12' = 4", "shows(0) = 0", "shows(1) = 11", "shows(2) = 0", "shows(3) = 1",
                "shows(5) = 3", "shows(7) = 9", "shows(4) = 8", "shows(8) = BAD", "shows(-1) = BAD",
                "telling(0) = 1", "telling(1) = 3", "heal(2) = 0", "shows(0) = 12", "shows(1) = 7", "shows(5) = 15",
                "telling(0) = 5", "telling(1) = 4", "telling(2) = BAD", "telling(-1) = BAD",
                "read '2:t0!,t1!' = 2", "telling(0) = 0", "telling(1) = 0", "read '2:i10' = 1", "telling(0) = 1",
                "telling(1) = 1", "read '2:t0' = 1", "telling(0) = 0", "telling(1) = 1");
    }

    private static void likely() {
        Script.on("promise 32: likely",
                "read '3:b012,t1' = 2", "likely(0, 5, 0) = 1", "likely(0, 5, 1) = 2",
                "likely(0, 3, 0) = 42", "likely(0, 3, 1) = 125", "likely(1, 3, 0) = 7", "likely(1, 3, 1) = 10",
                "likely(1, 0, 0) = 1", "likely(1, 0, 1) = 1", "likely(0, 0, 0) = 0", "likely(0, 0, 1) = 1",
                "likely(0, 10, 0) = 0", "likely(0, 10, 1) = 1", "likely(2, 10, 0) = 1", "likely(2, 10, 1) = 1",
                "likely(2, 4, 0) = 2", "likely(2, 4, 1) = 5",
                "likely(3, 0, 0) = BAD", "likely(-1, 0, 0) = BAD", "likely(0, 11, 0) = BAD", "likely(0, -1, 0) = BAD",
                "likely(0, 5, 2) = BAD", "likely(0, 5, -1) = BAD",
                "read '6:b012,b034,b051' = 3", "likely(0, 1, 0) = 1908", "likely(0, 1, 1) = 15625");
    }

    private static void images() {
        Script.on("promises 33 and 34: image, restore",
                "restore() = NONE", "read '4=3:t0,t1!' = 2", "step(1) = 2", "flip(3) = 10", "seed(70) = 1",
                "sheet(0, 1, 2) = 2", "type '5'", "image() = 1",
                "undo() = 1", "heal(1) = 0", "kill(0) = 1", "sheet(0, 2, 3) = 3", "type ':'", "circuit() = 0",
                "type '6'", "restore() = 1", "count(0) = 4", "count(1) = 2", "count(2) = 10", "count(3) = 1",
                "count(4) = 2", "count(6) = 2", "seed(2) = 70", "drop(0) = 3", "type(58) = 2", "circuit() = 0",
                "restore() = 1", "count(0) = 4", "seed(1) = 70", "undo() = 1", "count(2) = 2", "seed(1) = 1",
                "undo() = 0", "count(2) = 3", "count(3) = 0", "undo() = NONE",
                "image() = 1", "wires(2) = 4", "restore() = 1", "count(6) = 0", "count(2) = 3");
        Script.on("promise 34: what may be undone is as it was then, whatever was done and undone since",
                "flip(0) = 1", "flip(1) = 3", "image() = 1", "undo() = 1", "undo() = 0", "flip(2) = 4", "flip(2) = 0",
                "restore() = 1", "count(2) = 3", "undo() = 1", "count(2) = 1", "undo() = 0", "count(2) = 0",
                "undo() = NONE", "restore() = 1", "count(6) = 2");
    }
}
