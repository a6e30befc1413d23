import java.util.ArrayList;
import java.util.Arrays;
import java.util.List;

/**
 * "What is refused changes nothing, but as told", and "FORETOLD (nothing is changed)": two objects are brought
 * to the same place, one of them is told the call, and both are then asked for all that can be asked.
 */
public final class ChangesNothingTest {
    private static final String[] BUSY = {"read '4=9:t0,i13!,c02,b312' = 4", "step(3) = 8", "flip(1) = 10", "seed(77) = 1",
        "kill(0) = 3", "image() = 1", "move(2, 3) = 1", "home() = 3", "step(1) = 10", "seed(78) = 77",
        "sheet(0, 0, 3) = 3", "item(0, 0, 1, 5) = 1", "sheet(1, 2, 24) = 24", "film(0, 16, 1, 2, 4) = 16",
        "sheet(2, 3, 0) = 0", "type '3=1:'"};
    private static final String[] FULL_UP = {"read '2:t0,t0,t0,t0,t0,t0,t0,t0,t0,t0,t0,t0,t0,t0,t0,t1!' = 16",
        "step(16) = 1", "sheet(3, 1, 24) = 24", "type '" + "2:t0" + " ".repeat(106) + "'"};
    private static final String[] EMPTY = {};

    private ChangesNothingTest() { }

    public static void main(String[] args) {
        refused(BUSY,
                "wires(1) = BAD", "wires(7) = BAD", "gate(5, 0, 1, 2) = BAD", "gate(0, 4, 0, 0) = BAD",
                "gate(0, 0, 1, 0) = BAD", "gate(3, 0, 1, 0) = BAD", "of(4, 0) = BAD", "of(0, 5) = BAD", "does(4, 0) = BAD",
                "does(0, 16) = BAD", "type(31) = BAD", "type(127) = BAD", "count(7) = BAD", "step(0) = BAD",
                "step(17) = BAD", "step(4) = NOT", "step(16) = NOT", "back(0) = BAD", "back(17) = BAD", "back(2) = NOT",
                "flip(4) = BAD", "flip(-1) = BAD", "kill(4) = BAD", "kill(0) = NOT", "kill(1) = NOT", "heal(4) = BAD",
                "heal(2) = NOT", "move(0, 0) = BAD", "move(0, 4) = BAD", "drift(0) = BAD", "drift(41) = BAD",
                "seed(-1) = BAD");
        refused(BUSY,
                "goes(16, 0) = BAD", "goes(0, 2) = BAD", "far(16, 1) = BAD", "far(0, -1) = BAD", "far(0, 2000000001) = BAD",
                "ring(16) = BAD", "rings(3) = BAD", "alike(0, 0) = BAD", "alike(0, 4) = BAD", "hangs(4, 0) = BAD",
                "hangs(0, 2) = BAD", "way(16, 0, 0) = BAD", "way(0, 0, -2) = BAD", "way(0, 1, -1) = NONE",
                "way(0, 0, 0) = NONE", "pair() = NONE", "reach(16) = BAD", "shows(16) = BAD", "telling(2) = BAD",
                "likely(4, 5, 0) = BAD", "likely(0, 11, 0) = BAD", "likely(0, 5, 2) = BAD");
        refused(BUSY,
                "came(-3, 0, 1, 2, 0, 1) = BAD", "came(4, 0, 1, 2, 0, 1) = BAD", "came(-1, 9, 1, 2, 0, 8) = BAD",
                "came(-1, 0, 3, 2, 0, 1) = NULL", "came(-1, 0, 1, 1, 0, 1) = CAST", "came(-1, 0, 1, 2, 24, 1) = INDEX",
                "came(-2, 1, 0, 0, 0, 3) = NONE", "film(9, 8, 1, 2, 0) = BAD", "film(0, 4, 3, 2, 0) = NULL",
                "film(1, 3, 0, 2, 0) = CAST", "film(1, 3, 0, 0, 1) = INDEX", "film(1, 4, 0, 0, 0) = INDEX",
                "film(1, 3, 0, 0, -1) = INDEX", "film(0, 1, 2, 3, 0) = INDEX", "sheet(0, 4, 3) = BAD", "sheet(0, 2, 25) = BAD",
                "sheet(0, 2, -1) = SIZE", "drop(4) = BAD", "drop(3) = NULL", "item(0, 4, 0, 9) = BAD", "item(3, 0, 0, 9) = NULL",
                "item(0, 1, 0, 9) = CAST", "item(0, 0, 3, 9) = INDEX", "item(0, 0, -1, 9) = INDEX", "item(2, 3, 0, 9) = INDEX",
                "copy(4, 0, 1, 0, 1) = BAD", "copy(3, 0, 1, 0, 1) = NULL", "copy(1, 0, 3, 0, 1) = NULL",
                "copy(1, 0, 0, 0, 1) = CAST", "copy(1, 4, 1, 9, 16) = INDEX", "copy(1, 9, 1, 0, 16) = INDEX",
                "copy(1, 4, 1, 5, -1) = INDEX");
        refused(FULL_UP,
                "gate(0, 0, 0, 0) = FULL", "type(32) = FULL", "type(33) = FULL", "step(1) = NOT", "kill(15) = NOT",
                "kill(16) = BAD", "heal(14) = NOT", "restore() = NONE", "back(17) = BAD", "flip(2) = BAD");
        refused(EMPTY,
                "step(1) = NOT", "back(1) = NOT", "home() = NOT", "undo() = NONE", "restore() = NONE", "pair() = NONE",
                "kill(0) = BAD", "move(0, 1) = BAD", "drop(0) = NULL", "circuit() = -20", "way(0, 1, -1) = NONE");
        asked();
        circuits();
        Script.end();
    }

    private static void refused(String[] ahead, String... calls) {
        for (String call : calls) {
            same(ahead, call, -1);
        }
    }

    private static void asked() {
        for (String call : new String[] {"of(0, 0) = 0", "does(2, 7) = 15", "count(4) = 3", "goes(9, 0) = 12",
            "goes(12, 1) = 9", "far(9, 1999999999) = 12", "ring(3) = 4", "rings(0) = 10", "order() = 4", "odd() = 0",
            "alike(2, 3) = 0", "pair() = NONE", "hangs(0, 0) = 4", "hangs(3, 1) = 4", "way(3, 14, -1) = 2", "way(3, 14, 1) = 2",
            "reach(3) = 4", "shows(9) = 8", "telling(0) = 6", "telling(1) = 2", "likely(3, 3, 0) = 42",
            "came(-1, 0, 1, 2, 4, 8) = 3", "came(-2, 0, 1, 2, 4, 8) = 1", "came(2, 0, 1, 2, 4, 8) = 8"}) {
            same(BUSY, call, -1);
        }
    }

    /** A fault leaves all but the tape; an image leaves all but the image. */
    private static void circuits() {
        same(BUSY, "type(120) = 5", 2);
        same(BUSY, "type(32) = 5", 2);
        for (String text : new String[] {"x", "t", "t3", "t0,", "b012!!", "t0,t1,t0,t1,t0,t1,t0,t1,t0,t1,t0,t1,t0,t1,t0,t1,t0"}) {
            MirrorWires told = made(BUSY);
            Script.due("'" + text + "' is a fault", Script.read(told, text) <= -20 ? 1 : 0, 1);
            sameFrom(BUSY, "a fault of '" + text + "'", 2, x -> Script.read(x, text));
        }
        sameFrom(BUSY, "image()", 1, x -> x.image());
    }

    private interface Call {
        int on(MirrorWires x);
    }

    private static MirrorWires made(String[] ahead) {
        MirrorWires x = new MirrorWires();
        Script.rows("ahead", x, ahead);
        return x;
    }

    private static void same(String[] ahead, String call, int but) {
        Script.rows("told behind " + ahead.length + " rows", made(ahead), new String[] {call});
        sameFrom(ahead, call, but, x -> Script.told(x, call));
    }

    /** Each look is at two new objects, as looking changes them too. */
    private static void sameFrom(String[] ahead, String title, int but, Call call) {
        for (int look = 0; look < 7; look++) {
            if (look != but) {
                MirrorWires told = made(ahead);
                MirrorWires untold = made(ahead);
                call.on(told);
                List<Integer> got = looked(told, look);
                List<Integer> due = looked(untold, look);
                if (!got.equals(due)) {
                    System.out.println(title + ", look " + look + ": " + got + ", due is " + due);
                }
                Script.due(title + " changes nothing, look " + look, got.equals(due) ? 1 : 0, 1);
            }
        }
    }

    private static List<Integer> looked(MirrorWires x, int look) {
        List<Integer> seen = new ArrayList<>();
        if (look == 0) {
            board(x, seen);
            past(x, seen);
        } else if (look == 1) {
            seen.add(x.restore());
            board(x, seen);
            past(x, seen);
        } else if (look == 2) {
            seen.addAll(Arrays.asList(x.type(' '), x.type('t'), x.type('2'), x.circuit()));
            board(x, seen);
        } else {
            sheet(x, look - 3, seen);
        }
        return seen;
    }

    private static void board(MirrorWires x, List<Integer> seen) {
        for (int what = 0; what < 7; what++) {
            seen.add(x.count(what));
        }
        for (int g = 0; g < 16; g++) {
            for (int what = 0; what < 5; what++) {
                seen.add(x.of(g, what));
            }
        }
        int draw = x.seed(0);
        seen.add(draw);
        x.seed(draw);
    }

    private static void past(MirrorWires x, List<Integer> seen) {
        for (int u = 0; u < 9; u++) {
            seen.add(x.undo());
            seen.addAll(Arrays.asList(x.count(2), x.count(3), x.count(4), x.of(2, 0), x.seed(u)));
        }
    }

    /** An item is told by the state that goes to it, there being no gates; others than states are told as such. */
    private static void sheet(MirrorWires x, int sheet, List<Integer> seen) {
        x.wires(4);
        int lane = 0;
        while (lane < 3 && x.came(-2, 0, sheet, lane, 0, 1) == MirrorWires.CAST) {
            lane++;
        }
        seen.add(lane);
        for (int i = 0; i < 24; i++) {
            int state = 0;
            while (state < 16 && x.came(-2, state, sheet, lane, i, 1) != 1) {
                state++;
            }
            seen.add(state);
        }
        seen.add(x.drop(sheet));
    }
}
