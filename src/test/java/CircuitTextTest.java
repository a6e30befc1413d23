/** Promise 7: circuit, with the faults of term 3. */
public final class CircuitTextTest {
    private static final String SIXTEEN = "t0,t1,t0,t1,t0,t1,t0,t1,t0,t1,t0,t1,t0,t1,t0,t1";

    private CircuitTextTest() { }

    public static void main(String[] args) {
        replacesAll();
        heads();
        gates();
        blanks();
        Script.end();
    }

    private static void replacesAll() {
        Script.on("promise 7: in place of all",
                "wires(5) = 3", "gate(0, 4, 0, 0) = 0", "seed(99) = 1", "step(1) = 16", "sheet(1, 0, 3) = 3",
                "read '4=9:t3!,i21' = 2",
                "count(0) = 4", "count(1) = 2", "count(2) = 9", "count(3) = 0", "count(4) = 1", "count(5) = 2",
                "count(6) = 0", "undo() = NONE", "seed(1) = 99", "drop(1) = 3", "of(1, 0) = 1", "of(1, 1) = 2",
                "of(1, 2) = 1", "read '2:' = 0", "count(0) = 2", "count(1) = 0", "count(2) = 0", "count(4) = 0");
        Script.on("promise 7: a fault leaves all but the tape",
                "read '4=9:t3' = 1", "step(1) = 1", "seed(4) = 1", "read '2=1:t0,x' = -27",
                "count(0) = 4", "count(1) = 1", "count(2) = 1", "count(3) = 1", "count(6) = 1", "seed(1) = 4",
                "of(0, 1) = 3", "circuit() = -20", "undo() = 0", "count(2) = 9");
        Script.on("promise 7: an image outlasts a circuit",
                "flip(1) = 2", "image() = 1", "read '6:' = 0", "restore() = 1", "count(0) = 3", "count(2) = 2",
                "count(6) = 1");
    }

    private static void heads() {
        Script.on("promise 7: wires and bits",
                "read '' = -20", "read 'x' = -20", "read ':' = -20", "read '0:' = -20", "read '1:' = -20",
                "read '7:' = -20", "read '2:' = 0", "read '6:' = 0", "read '2' = -21", "read '22:' = -21",
                "read '2x' = -21", "read '2=' = -22", "read '2=:' = -22", "read '2=x' = -22", "read '2=3' = -23",
                "read '2=3:' = 0", "read '2=4:' = -22", "read '2=03:' = 0", "count(2) = 3", "read '2=04:' = -22",
                "read '2=10:' = -22", "read '6=63:' = 0", "count(2) = 63", "read '6=64:' = -22", "read '6=64' = -22",
                "read '6=99:' = -22", "read '6=630:' = -24", "read '6=063:' = -24", "read '6=640:' = -22",
                "read '6=6x:' = -23", "read '2=4x' = -22", "read '2=-1:' = -22", "read '2==1:' = -22",
                "read '2=1=1:' = -23", "read '2::' = -22", "read '5=31:' = 0", "read '5=32:' = -22",
                "read '3=7:' = 0", "read '3=8:' = -22", "read '4=15:' = 0", "read '4=16:' = -22");
    }

    private static void gates() {
        Script.on("promise 7: gates",
                "read '3:t2' = 1", "read '3:t3' = -23", "read '3:t' = -23", "read '3:tx' = -23", "read '3:T0' = -22",
                "read '3:i01' = 1", "read '3:i00' = -24", "read '3:i0' = -24", "read '3:i0,' = -24",
                "read '3:c12' = 1", "read '3:c11' = -24", "read '3:c1' = -24", "read '3:b012' = 1",
                "read '3:b010' = -25", "read '3:b011' = -25", "read '3:b002' = -24", "read '3:b01' = -25",
                "read '3:b013' = -25", "read '3:p210' = 1", "read '3:p212' = -25", "read '3:p21!' = -25",
                "read '3:t00' = -24", "read '3:t0!' = 1", "of(0, 4) = 1", "read '3:t0!!' = -25", "read '3:!' = -22",
                "read '3:t!' = -23", "read '3:t0!,t1' = 2", "of(0, 4) = 1", "of(1, 4) = 0", "read '3:t0,' = -25",
                "read '3:,' = -22", "read '3:t0,,t1' = -25", "read '3:t0t1' = -24", "read '3:t0;' = -24",
                "read '2:b01' = -25", "read '2:b010' = -25", "read '3:t0:' = -24", "read '6:p543!' = 1",
                "of(0, 0) = 4", "of(0, 1) = 5", "of(0, 2) = 4", "of(0, 3) = 3");
        Script.on("promise 7: at most 16 gates",
                "read '2:" + SIXTEEN + "' = 16", "count(1) = 16", "read '2:" + SIXTEEN + "!' = 16", "count(4) = 32768",
                "read '2:" + SIXTEEN + ",t0' = -69", "read '2:" + SIXTEEN + ",' = -69",
                "read '2:" + SIXTEEN + " ' = 16");
    }

    private static void blanks() {
        Script.on("promise 7: blanks count for nothing, but end a number",
                "read '  3 = 5 : t 0 , b 2 1 0 ! ' = 2", "count(0) = 3", "count(2) = 5", "count(4) = 2",
                "of(1, 1) = 2", "of(1, 2) = 1", "of(1, 3) = 0",
                "read '6=1 2:' = -24", "read '6= 12:' = 0", "count(2) = 12", "read '6=12 3:' = -25",
                "read '2=4 1:' = -22", "read ' ' = -21", "read '  x' = -22", "read '3 ' = -22", "read '3:  ' = 0",
                "read '3: t' = -24", "read '3:t  ' = -25", "read '3:t  3' = -25", "read '3:t0 ,  ' = -28",
                "read '3:i 1 1' = -26", "read '2=  9:' = -24");
        Script.on("promise 7: letters of an earlier tape are not read again",
                "read '3=5:t0,t1' = 2", "read '3=5:t0,' = -27", "read '3=5:' = 0", "read '3=' = -22", "read '3' = -21",
                "read '3:t0' = 1", "read '3:t' = -23", "read '3:t0!' = 1", "read '3:t1' = 1", "count(4) = 0",
                "read '3:t0" + " ".repeat(105) + ",' = -130", "read '3:t0" + " ".repeat(106) + "' = 1");
    }
}
