/** Edges of term 2 and of promises 19 to 34: a test for each sentence that names one. */
public final class ForetoldEdgesTest {
    private ForetoldEdgesTest() { }

    public static void main(String[] args) {
        goes();
        far();
        rings();
        order();
        alike();
        pair();
        hangs();
        way();
        reach();
        shows();
        telling();
        likely();
        images();
        Script.end();
    }

    private static void goes() {
        Script.on("promise 19: what is 0, 1",
                "read '2:i10,t0' = 2", "goes(3, 0) = 0", "goes(3, 1) = 2", "goes(3, 2) = BAD", "goes(3, -1) = BAD",
                "goes(3, 2147483647) = BAD", "goes(3, -2147483648) = BAD");
        Script.on("promise 19: no gates at all: to itself, from itself", "goes(0, 0) = 0", "goes(7, 0) = 7",
                "goes(0, 1) = 0", "goes(7, 1) = 7");
        Script.on("promise 19: all gates dead", "read '3:t0!,c12!' = 2", "goes(2, 0) = 2", "goes(2, 1) = 2");
        Script.on("term 2: a run takes a state through all gates, wherever the bits stand",
                "read '3=7:t0,t1,i20' = 3", "step(2) = 4", "goes(0, 0) = 7", "goes(7, 1) = 0", "goes(1, 0) = 2",
                "counts = 3,3,4,2,0,1,2");
        Script.on("term 2: 16 gates", "read '2:t0,t0,t0,t0,t0,t0,t0,t0,t0,t0,t0,t0,t0,t0,t0,t1' = 16", "goes(0, 0) = 3",
                "goes(3, 1) = 0");
    }

    private static void far() {
        Script.on("promise 20: k is 0 .. 2000000000",
                "read '2:i10,t0' = 2", "far(1, 0) = 1", "far(1, 1) = 2", "far(1, 3) = 0", "far(1, 4) = 1",
                "far(1, 1999999999) = 0", "far(1, 2000000000) = 1", "far(1, 2000000001) = BAD",
                "far(1, 2147483647) = BAD", "far(1, -1) = BAD", "far(1, -2147483648) = BAD");
        Script.on("promise 20: no gates at all", "far(7, 0) = 7", "far(7, 1) = 7", "far(7, 2000000000) = 7");
        Script.on("promise 20: a ring of 3 behind 2000000000 runs, which are 2 more than rings",
                "read '3:c01,c12' = 2", "far(1, 1) = 4", "far(1, 2) = 2", "far(1, 3) = 1", "far(1, 2000000000) = 2",
                "far(1, 1999999998) = 1");
    }

    private static void rings() {
        Script.on("promise 21: by how many runs, 1 on: a state that goes to itself",
                "ring(0) = 1", "ring(7) = 1", "read '3:i10' = 1", "ring(0) = 1", "ring(1) = 2", "ring(7) = 2",
                "ring(6) = 1");
        Script.on("promise 22: what is 0 .. 2",
                "rings(0) = 8", "rings(1) = 1", "rings(2) = 8", "rings(3) = BAD", "rings(-1) = BAD",
                "rings(2147483647) = BAD", "rings(-2147483648) = BAD");
        Script.on("promise 22: all states in one ring; none goes to itself",
                "read '2:i10,t0' = 2", "rings(0) = 1", "rings(1) = 4", "rings(2) = 0", "ring(0) = 4");
        for (int n = 2; n <= 6; n++) {
            MirrorWires x = new MirrorWires();
            x.wires(n);
            Script.due("no gates: as many rings as states", x.rings(0), 1 << n);
            Script.due("no gates: the longest", x.rings(1), 1);
            Script.due("no gates: to themselves", x.rings(2), 1 << n);
            x.gate(0, n - 1, 0, 0);
            Script.due("one turn: rings", x.rings(0), 1 << (n - 1));
            Script.due("one turn: the longest", x.rings(1), 2);
            Script.due("one turn: to themselves", x.rings(2), 0);
        }
        Script.on("promise 22: the longest is neither the first nor the last ring",
                "read '4:t3,c21,b320,c03,i30' = 5", "ring(0) = 3", "ring(15) = 4", "rings(1) = 8", "rings(0) = 4",
                "rings(2) = 1", "order() = 24", "odd() = 0");
    }

    private static void order() {
        Script.on("promise 23: by how many runs, 1 on: no gates", "order() = 1", "odd() = 0");
        Script.on("promise 23: all at once first, rings of 2 and 3 by 6",
                "read '5:c01,c12,c34' = 3", "order() = 6", "ring(1) = 3", "ring(8) = 2");
        Script.on("promise 23: rings of 4 and 6 by 12, not by 24",
                "read '6:c01,c12,i43,t3' = 4", "ring(0) = 4", "ring(1) = 12", "order() = 12", "kill(3) = 8", "ring(8) = 2",
                "ring(9) = 6", "order() = 6");
        Script.on("promise 24: 1, if the states less the rings are an odd number",
                "odd() = 0", "read '2:t0' = 1", "odd() = 0", "read '2:i01' = 1", "odd() = 1", "read '2:i01!' = 1",
                "odd() = 0", "read '3:i01' = 1", "odd() = 0", "read '3:b012' = 1", "odd() = 1", "read '3:p012' = 1",
                "odd() = 1", "read '3:b012,p012' = 2", "odd() = 0", "read '4:b012' = 1", "odd() = 0");
        Script.on("promises 22 to 24 are told of the gates as they are, whatever was told before",
                "read '4:i10,t0' = 2", "order() = 4", "rings(0) = 4", "wires(2) = 4", "order() = 1",
                "rings(0) = 4", "rings(1) = 1", "rings(2) = 4");
    }

    private static void alike() {
        Script.on("promise 25: BAD: alike numbers, too",
                "alike(0, 0) = BAD", "read '3:t0,t1' = 2", "alike(0, 0) = BAD", "alike(1, 1) = BAD", "alike(2, 2) = BAD",
                "alike(-1, -1) = BAD", "alike(0, 2) = BAD", "alike(-1, 0) = BAD", "alike(0, 2147483647) = BAD");
        Script.on("promise 25: two that change nothing by their change of places, in either order",
                "read '3:i10,t2,i10' = 3", "alike(0, 1) = 1", "alike(1, 0) = 1", "alike(0, 2) = 1", "alike(2, 0) = 1");
        Script.on("promise 25: the gates between them count",
                "read '3:t0,i10,t1' = 3", "alike(0, 2) = 0", "kill(1) = 2", "alike(0, 2) = 1");
        Script.on("promise 25: one dead, and both: it is dead in its new place, too",
                "read '2:t0!,i10,t0' = 3", "alike(0, 2) = 0", "alike(0, 1) = 1", "kill(2) = 5", "alike(0, 2) = 1");
        Script.on("promise 25: a single state of 64 that goes elsewhere is enough",
                "read '6:b012,b345,b130,b254' = 4", "alike(0, 1) = 1", "alike(0, 2) = 0");
        Script.on("promise 25: the first and the 16th",
                "read '2:t0,t1,t1,t1,t1,t1,t1,t1,t1,t1,t1,t1,t1,t1,t1,i10' = 16", "alike(0, 15) = 0", "alike(15, 0) = 0",
                "alike(14, 15) = 1", "alike(16, 0) = BAD");
    }

    private static void pair() {
        Script.on("promise 26: NONE: no gates, one gate, two that change something",
                "pair() = NONE", "read '3:t0' = 1", "pair() = NONE", "read '3:t0,t1' = 2", "pair() = NONE");
        Script.on("promise 26: neither of them dead",
                "read '3:t0!,t0' = 2", "pair() = NONE", "read '3:t0,t0!' = 2", "pair() = NONE", "read '3:t0!,t0!' = 2",
                "pair() = NONE", "read '3:t0,t0!,t0' = 3", "pair() = 2");
        Script.on("promise 26: gates 14 and 15, told as 1415",
                "read '3:c20,b201,t1,i21,c02,p012,b210,b120,b201,p012,c01,t0,p201,b210,t2,t2' = 16", "pair() = 1415",
                "kill(15) = 32768", "pair() = NONE");
        Script.on("promise 26: gates 0 and 15, told as 15; what lies between may take part",
                "read '2:t0!,t0!' = 2", "gate(0, 0, 0, 0) = 2", "gate(1, 1, 0, 0) = 3", "gate(1, 1, 0, 0) = 4",
                "gate(0, 0, 0, 0) = 5", "pair() = 205");
        Script.on("promise 26: of several the first, by i, then j",
                "read '3:t2,t2,t2' = 3", "pair() = 1", "read '3:t0,t1,t1,t0' = 4", "pair() = 3",
                "read '3:i10,t1,t0,t1,t1' = 5", "pair() = 103", "read '3:i21,t2,t2,t2' = 4", "pair() = 102");
        Script.on("promise 26: six wires",
                "read '6:b543,b210,b543' = 3", "pair() = 2", "read '6:b543,b432,b543,t0' = 4", "pair() = NONE",
                "read '6:b012,b345,b120,b345' = 4", "pair() = 103");
        Script.on("promise 26: the bits and the gates are as they were", "read '3=1:t2,t2' = 2", "step(1) = 5",
                "pair() = 1", "counts = 3,2,5,1,0,2,1");
    }

    private static void hangs() {
        Script.on("promise 27: what is 0, 1", "hangs(0, 0) = 1", "hangs(0, 1) = 0", "hangs(0, 2) = BAD",
                "hangs(0, -1) = BAD", "hangs(0, 2147483647) = BAD", "hangs(0, -2147483648) = BAD");
        for (int n = 2; n <= 6; n++) {
            MirrorWires x = new MirrorWires();
            x.wires(n);
            Script.due("no gates: the last wire hangs on itself", x.hangs(n - 1, 0), 1 << (n - 1));
            Script.due("no gates: the last wire is turned by none", x.hangs(n - 1, 1), 0);
            Script.due("the wire behind the last is none", x.hangs(n, 0), MirrorWires.BAD);
            Script.due("nor turned", x.hangs(n, 1), MirrorWires.BAD);
            x.gate(0, n - 1, 0, 0);
            Script.due("a turn: the last wire hangs on itself", x.hangs(n - 1, 0), 1 << (n - 1));
            Script.due("a turn: turned by all", x.hangs(n - 1, 1), 1 << n);
        }
        Script.on("promise 27: a wire that hangs on others, and not on itself",
                "read '3:c01' = 1", "hangs(0, 0) = 2", "hangs(1, 0) = 1", "hangs(2, 0) = 4");
        Script.on("promise 27: for some state: wires by which it is otherwise for few states are enough",
                "read '6:b012,b134,b235,b012' = 4", "hangs(0, 0) = 63", "hangs(0, 1) = 12", "hangs(5, 0) = 32",
                "hangs(-1, 0) = BAD", "hangs(-1, 1) = BAD");
    }

    private static void way() {
        Script.on("promise 28: to itself: none of the gates are needed",
                "way(3, 3, -1) = 0", "way(3, 3, 0) = NONE", "read '3:t0' = 1", "way(3, 3, -1) = 0", "way(3, 3, 0) = NONE");
        Script.on("promise 28: NONE: no gates, dead gates, gates that do not come there",
                "way(0, 1, -1) = NONE", "way(0, 1, 0) = NONE", "read '3:t0!' = 1", "way(0, 1, -1) = NONE",
                "way(0, 1, 0) = NONE", "read '3:t1' = 1", "way(0, 1, -1) = NONE", "way(0, 1, 0) = NONE",
                "way(0, 1, 2147483647) = NONE");
        Script.on("promise 28: NONE: not so many",
                "read '3:t0,t1,t2' = 3", "way(0, 7, -1) = 3", "way(0, 7, 0) = 0", "way(0, 7, 1) = 1", "way(0, 7, 2) = 2",
                "way(0, 7, 3) = NONE", "way(0, 7, 2147483647) = NONE");
        Script.on("promise 28: BAD: k below -1",
                "read '3:t0' = 1", "way(0, 1, -2) = BAD", "way(0, 1, -2147483648) = BAD", "way(0, 0, -2) = BAD",
                "way(0, 2, -2) = BAD");
        Script.on("promise 28: of like ones the first row",
                "read '3:t2,t1,t0,t1' = 4", "way(0, 7, 0) = 0", "way(0, 7, 1) = 1", "way(0, 7, 2) = 2", "way(7, 5, 0) = 1",
                "kill(1) = 2", "way(0, 7, 0) = 0", "way(0, 7, 1) = 2", "way(0, 7, 2) = 3", "way(7, 5, 0) = 3");
        Script.on("promise 28: fewest, though a longer row begins with a lesser number",
                "read '3:i10,t0,t1' = 3", "way(0, 2, -1) = 1", "way(0, 2, 0) = 2", "way(0, 3, -1) = 2", "way(0, 3, 0) = 1",
                "way(0, 3, 1) = 0");
        Script.on("promise 28: in any order, however often",
                "read '2:i10,t0' = 2", "way(0, 2, -1) = 3", "way(0, 2, 0) = 1", "way(0, 2, 1) = 0", "way(0, 2, 2) = 1",
                "way(0, 2, 3) = NONE");
        Script.on("promise 28: the way back is as long; its row is another",
                "read '3:t0,i10,i21' = 3", "way(0, 7, -1) = 3", "way(0, 7, 0) = 0", "way(0, 7, 1) = 1", "way(0, 7, 2) = 2",
                "way(7, 0, -1) = 3", "way(7, 0, 0) = 2", "way(7, 0, 1) = 1", "way(7, 0, 2) = 0");
        Script.on("promise 28: wherever the bits stand", "read '3=7:t0,t1' = 2", "step(2) = 4", "way(0, 3, -1) = 2",
                "counts = 3,2,4,2,0,1,2");
    }

    private static void reach() {
        Script.on("promise 29: itself, too", "reach(0) = 1", "reach(7) = 1", "read '3:t0!' = 1", "reach(0) = 1");
        for (int n = 2; n <= 6; n++) {
            MirrorWires x = new MirrorWires();
            x.wires(n);
            for (int w = 0; w < n; w++) {
                x.gate(0, w, 0, 0);
                Script.due("reach by turns of " + (w + 1) + " wires of " + n, x.reach((1 << n) - 1), 2 << w);
                Script.due("way to the other end", x.way(0, (2 << w) - 1, -1), w + 1);
            }
        }
        Script.on("promise 29: a state from which none is come to, and others",
                "read '3:i10,i21' = 2", "reach(0) = 1", "reach(1) = 4", "reach(2) = 2", "reach(4) = 1");
    }

    private static void shows() {
        Script.on("promise 30: no gates at all; a dead gate never",
                "shows(0) = 0", "shows(7) = 0", "read '3:t0!,t1,t2!' = 3", "shows(0) = 2", "kill(1) = 7", "shows(0) = 0");
        Script.on("promise 30: sets are bits: gate 15, all 16",
                "read '2:i10,i10,i10,i10,i10,i10,i10,i10,i10,i10,i10,i10,i10,i10,i10,t0' = 16", "shows(0) = 32768",
                "shows(1) = 65535");
        Script.on("promise 30: a gate that changes nothing of this state is not shown",
                "read '3:i10,c12,b210' = 3", "shows(0) = 0", "shows(6) = 0", "shows(1) = 3", "shows(7) = 7");
    }

    private static void telling() {
        Script.on("promise 31: what is 0, 1", "read '2:i10' = 1", "telling(0) = 1", "telling(1) = 1", "telling(2) = BAD",
                "telling(-1) = BAD", "telling(2147483647) = BAD", "telling(-2147483648) = BAD");
        Script.on("promise 31: 0: none shows any: no gates, dead gates", "telling(0) = 0", "telling(1) = 0",
                "read '6:t0!,t5!' = 2", "telling(0) = 0", "telling(1) = 0");
        Script.on("promise 31: of like ones the least", "read '3:t0' = 1", "telling(0) = 0", "telling(1) = 1",
                "read '3:i12' = 1", "telling(0) = 4", "telling(1) = 1");
        Script.on("promise 31: the last state of six wires alone", "read '6:b513,b520,b314,b450' = 4", "telling(0) = 63",
                "telling(1) = 4", "shows(63) = 15");
    }

    private static void likely() {
        Script.on("promise 32: c is 0 .. 10", "likely(0, 0, 0) = 0", "likely(0, 0, 1) = 1", "likely(0, 10, 0) = 1",
                "likely(0, 10, 1) = 1", "likely(0, 11, 0) = BAD", "likely(0, 11, 1) = BAD", "likely(0, -1, 0) = BAD",
                "likely(0, 2147483647, 0) = BAD", "likely(0, -2147483648, 1) = BAD");
        Script.on("promise 32: what is 0, 1", "likely(0, 5, 0) = 1", "likely(0, 5, 1) = 2", "likely(0, 5, 2) = BAD",
                "likely(0, 5, -1) = BAD", "likely(0, 5, 2147483647) = BAD");
        Script.on("promise 32: wires", "likely(2, 5, 0) = 1", "likely(3, 5, 0) = BAD", "likely(-1, 5, 0) = BAD",
                "likely(2147483647, 5, 0) = BAD");
        Script.on("promise 32: by 0 of 10 and by 10 of 10 it is sure: 0 or 1, of 1",
                "read '6:t5,b012' = 2", "likely(5, 0, 0) = 1", "likely(5, 0, 1) = 1", "likely(5, 10, 0) = 0",
                "likely(5, 10, 1) = 1", "likely(0, 10, 0) = 0", "likely(0, 10, 1) = 1", "likely(0, 0, 0) = 0",
                "likely(0, 0, 1) = 1");
        int[] above = {0, 1, 1, 3, 2, 1, 3, 7, 4, 9, 1};
        int[] below = {1, 10, 5, 10, 5, 2, 5, 10, 5, 10, 1};
        for (int n = 2; n <= 6; n++) {
            MirrorWires x = new MirrorWires();
            x.wires(n);
            for (int c = 0; c <= 10; c++) {
                Script.due("no gates, by " + c + ": above", x.likely(n - 1, c, 0), above[c]);
                Script.due("no gates, by " + c + ": below", x.likely(n - 1, c, 1), below[c]);
            }
        }
        Script.on("promise 32: lowest terms of a million",
                "read '6:b314,p130,b340,p053,b502' = 5", "likely(5, 3, 0) = 87087", "likely(5, 3, 1) = 250000");
    }

    private static void images() {
        Script.on("promise 34: NONE: there is none, and all stays",
                "flip(0) = 1", "restore() = NONE", "counts = 3,0,1,0,0,1,1", "image() = 1", "restore() = 1");
        Script.on("promise 33: all but sheets, the tape: wires, gates, bits, where they stand, the draw",
                "read '4=9:t0!,i13' = 2", "step(2) = 11", "seed(99) = 1", "image() = 1", "read '2=1:t1' = 1", "step(1) = 3",
                "seed(5) = 99", "restore() = 1", "counts = 4,2,11,2,1,3,2", "of(0, 0) = 0", "of(1, 0) = 1", "of(1, 2) = 3",
                "seed(1) = 99");
        Script.on("promise 33: what may be undone, too: none, and 8",
                "image() = 1", "drift(9) = " + DriftRow.of(3, 0, 1, 9).bits, "count(6) = 8", "restore() = 1",
                "count(6) = 0", "undo() = NONE", "count(2) = 0");
        eightInAnImage();
        Script.on("promise 33: sheets and the tape are not kept, nor brought back",
                "sheet(0, 2, 3) = 3", "type '3'", "image() = 1", "drop(0) = 3", "sheet(1, 1, 9) = 9", "type ':'",
                "restore() = 1", "drop(0) = NULL", "drop(1) = 9", "type(116) = 3", "circuit() = -23");
        Script.on("promise 34: an image may be restored again and again",
                "flip(1) = 2", "image() = 1", "flip(0) = 3", "restore() = 1", "count(2) = 2", "flip(2) = 6", "undo() = 1",
                "undo() = 0", "flip(0) = 1", "restore() = 1", "counts = 3,0,2,0,0,1,1");
        Script.on("promise 33: a new image takes the place of the old one",
                "flip(1) = 2", "image() = 1", "flip(0) = 3", "image() = 1", "wires(2) = 3", "restore() = 1", "count(2) = 3",
                "count(6) = 2");
        Script.on("promise 34: what is done behind an image leaves the image",
                "read '3:t0,t1' = 2", "image() = 1", "kill(0) = 1", "move(0, 1) = 1", "gate(0, 2, 0, 0) = 2", "step(3) = 6",
                "restore() = 1", "counts = 3,2,0,0,0,0,0", "of(0, 1) = 0", "of(1, 1) = 1");
        Script.on("promise 33: an image is none that may be undone", "image() = 1", "undo() = NONE", "restore() = 1",
                "undo() = NONE");
    }

    private static void eightInAnImage() {
        for (int done = 0; done <= 20; done++) {
            MirrorWires x = new MirrorWires();
            x.wires(6);
            int[] bits = new int[done + 1];
            for (int d = 1; d <= done; d++) {
                bits[d] = x.flip(d * 5 % 6);
            }
            x.image();
            for (int more = 0; more < 11; more++) {
                x.flip(more % 6);
            }
            Script.due("restored behind " + done, x.restore(), 1);
            int known = Math.min(done, 8);
            for (int u = 1; u <= known; u++) {
                Script.due("undone behind a restore", x.undo(), known - u);
                Script.due("the bits then", x.count(2), bits[done - u]);
            }
            Script.due("no more behind a restore", x.undo(), MirrorWires.NONE);
        }
    }
}
