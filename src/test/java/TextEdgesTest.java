/** Edges of promise 7 and of the sentences of term 3 on a CIRCUIT and its FAULTS: a test for each. */
public final class TextEdgesTest {
    private static final String SIXTEEN = "t0,t1,t0,t1,t0,t1,t0,t1,t0,t1,t0,t1,t0,t1,t0,t1";

    private TextEdgesTest() { }

    public static void main(String[] args) {
        wires();
        bits();
        colon();
        howManyGates();
        kinds();
        digits();
        dead();
        inPlaceOfAll();
        numbers();
        theEnd();
        blanks();
        longest();
        everyLetterAtEveryPlace();
        Script.end();
    }

    private static void reads(String text, int due) {
        Script.due("reads '" + text + "'", Script.read(new MirrorWires(), text), due);
    }

    private static void wires() {
        for (int letter = 33; letter <= 126; letter++) {
            reads((char) letter + ":", letter >= '2' && letter <= '6' ? 0 : -20);
        }
        for (int n = 2; n <= 6; n++) {
            MirrorWires x = new MirrorWires();
            Script.due("a digit 2 .. 6", Script.read(x, n + ":"), 0);
            Script.due("so many wires", x.count(0), n);
        }
        Script.on("term 3: one digit: a second one can't stand there, whatever it is",
                "read '22:' = -21", "read '30:' = -21", "read '02:' = -20", "read '12:' = -20", "read '66:' = -21");
    }

    private static void bits() {
        for (int n = 2; n <= 6; n++) {
            int last = (1 << n) - 1;
            for (int number = 0; number <= 99; number++) {
                reads(n + "=" + number + ":", number <= last ? 0 : -22);
                if (number < 10) {
                    reads(n + "=0" + number + ":", number <= last ? 0 : -22);
                }
            }
            MirrorWires x = new MirrorWires();
            Script.read(x, n + "=" + last + ":");
            Script.due("a number 0 to the last state: the bits", x.count(2), last);
            Script.read(x, n + "=0:");
            Script.due("a number 0: the bits", x.count(2), 0);
        }
        Script.on("term 3: no number: the bits are 0, whatever they were",
                "read '3=7:' = 0", "count(2) = 7", "read '3:' = 0", "count(2) = 0");
        Script.on("term 3: behind = there is a number",
                "read '3=' = -22", "read '3=:' = -22", "read '3=,' = -22", "read '3==' = -22", "read '3=t' = -22",
                "read '3=-1:' = -22", "read '3=+1:' = -22");
        Script.on("term 3: = stands but once", "read '3=1=1:' = -23", "read '3==1:' = -22");
        Script.on("term 3: = does not stand ahead of the wires", "read '=3:' = -20", "read '=' = -20");
    }

    private static void colon() {
        Script.on("term 3: then :",
                "read '3' = -21", "read '3=1' = -23", "read '3=01' = -24", "read '3;' = -21", "read '3=1;' = -23",
                "read '3t0' = -21", "read '3=1t0' = -23", "read '3,t0' = -21", "read '3::' = -22",
                "read '3=1::' = -24", "read ':' = -20", "read '3:t0:' = -24");
    }

    private static void howManyGates() {
        StringBuilder text = new StringBuilder("3:");
        for (int gates = 0; gates <= 16; gates++) {
            MirrorWires x = new MirrorWires();
            Script.due("perhaps 1 to 16 gates: " + gates, Script.read(x, text.toString()), gates);
            Script.due("gates then", x.count(1), gates);
            text.append(gates == 0 ? "t0" : ",t0");
        }
        Script.on("term 3: a 17th gate can't stand there, so the comma ahead of it can't",
                "read '2:" + SIXTEEN + "' = 16", "read '2:" + SIXTEEN + ",t0' = -69", "read '2:" + SIXTEEN + ",' = -69",
                "read '2:" + SIXTEEN + ",x' = -69", "read '2:" + SIXTEEN + " , t0' = -70",
                "read '2:" + SIXTEEN + "!,t0' = -70", "read '2:" + SIXTEEN + "t0' = -69", "count(1) = 16");
        Script.on("term 3: a 17th gate: all else stays",
                "read '3=5:t2' = 1", "step(1) = 1", "read '2:" + SIXTEEN + ",t0' = -69", "counts = 3,1,1,1,0,1,1");
        Script.on("term 3: with , between",
                "read '3:,' = -22", "read '3:,t0' = -22", "read '3:t0,' = -25", "read '3:t0,,t1' = -25",
                "read '3:t0t1' = -24", "read '3:t0 t1' = -25", "read '3:t0;t1' = -24", "read '3:t0.t1' = -24",
                "read '3:t0,t1,' = -28", "read '3:t0!t1' = -25");
    }

    private static void kinds() {
        String names = "ticbp";
        String[] over = {"0", "01", "01", "012", "012"};
        for (int kind = 0; kind < 5; kind++) {
            MirrorWires x = new MirrorWires();
            Script.due("t i c b p", Script.read(x, "3:" + names.charAt(kind) + over[kind]), 1);
            Script.due("kind " + kind, x.of(0, 0), kind);
        }
        for (int letter = 33; letter <= 126; letter++) {
            if (names.indexOf(letter) < 0) {
                reads("3:" + (char) letter + "012", -22);
                reads("3:t0," + (char) letter + "012", -25);
            }
        }
    }

    /** As many digits as the kind has, each below the wires, unlike those ahead of it. */
    private static void digits() {
        for (int n = 3; n <= 6; n++) {
            for (int digit = 0; digit <= 9; digit++) {
                reads(n + ":t" + digit, digit < n ? 1 : -23);
                reads(n + ":i" + digit + (digit == 0 ? 1 : 0), digit < n ? 1 : -23);
                reads(n + ":c0" + digit, digit < n && digit != 0 ? 1 : -24);
                reads(n + ":i2" + digit, digit < n && digit != 2 ? 1 : -24);
                reads(n + ":b12" + digit, digit < n && digit != 1 && digit != 2 ? 1 : -25);
                reads(n + ":p20" + digit, digit < n && digit != 2 && digit != 0 ? 1 : -25);
                reads(n + ":b1" + digit + (digit == 0 ? 2 : 0), digit < n && digit != 1 ? 1 : -24);
            }
        }
        Script.on("term 3: too few digits: the first letter that is none",
                "read '3:t' = -23", "read '3:t,' = -23", "read '3:t!' = -23", "read '3:tt0' = -23", "read '3:i0' = -24",
                "read '3:i0,' = -24", "read '3:i0!' = -24", "read '3:c0' = -24", "read '3:c1,t0' = -24",
                "read '3:b01' = -25", "read '3:b01!' = -25", "read '3:b0' = -24", "read '3:b' = -23",
                "read '3:p21' = -25", "read '3:p2,' = -24", "read '3:p' = -23");
        Script.on("term 3: a digit too many",
                "read '3:t01' = -24", "read '3:t00' = -24", "read '3:i012' = -25", "read '3:c012' = -25",
                "read '3:b0120' = -26", "read '4:p0123' = -26", "read '3:t0!1' = -25");
        Script.on("term 3: over two wires b and p find no third one",
                "read '2:b01' = -25", "read '2:b010' = -25", "read '2:b011' = -25", "read '2:b012' = -25",
                "read '2:p10,t0' = -25", "read '2:b2' = -23", "read '2:i01' = 1");
    }

    private static void dead() {
        Script.on("term 3: perhaps !",
                "read '3:t0,t0!,t0' = 3", "count(4) = 2", "read '3:t0!,i01!,c01!,b012!,p012!' = 5", "count(4) = 31",
                "read '3:t0,i01,c01,b012,p012' = 5", "count(4) = 0");
        Script.on("term 3: ! stands but once, and behind a whole gate alone",
                "read '3:t0!!' = -25", "read '3:!' = -22", "read '3:!t0' = -22", "read '3:t!0' = -23",
                "read '3:t0,!' = -25", "read '3!:' = -21", "read '!3:' = -20", "read '3=1!:' = -23");
    }

    private static void inPlaceOfAll() {
        Script.on("term 3: in place of all; the bits stand ahead of gate 0",
                "read '4=9:t0!,t1!,t2' = 3", "step(3) = 13", "read '5=4:i01' = 1", "counts = 5,1,4,0,0,1,0",
                "of(0, 0) = 1", "of(1, 0) = BAD", "home() = NOT");
        Script.on("term 3: the draw stays",
                "seed(2147483647) = 1", "read '2:' = 0", "seed(0) = 2147483647", "read '2:' = 0", "seed(1) = 0");
        Script.on("term 3: a circuit told leaves nothing to be undone",
                "flip(0) = 1", "read '3:' = 0", "count(6) = 0", "undo() = NONE", "count(2) = 0");
        Script.on("promise 7: a fault: all else stays",
                "read '4=9:t0!,t1,t2' = 3", "seed(5) = 1", "step(3) = 15", "kill(1) = 3", "image() = 1",
                "sheet(3, 2, 4) = 4", "read '6=1:t0,t1,t9' = -31", "counts = 4,3,15,3,3,4,4", "of(1, 1) = 1",
                "of(2, 1) = 2", "seed(5) = 5", "drop(3) = 4", "undo() = 3", "count(4) = 1", "undo() = 2",
                "undo() = 1", "undo() = 0", "counts = 4,3,9,0,1,2,0", "restore() = 1", "counts = 4,3,15,3,3,4,4");
        Script.on("promise 7: a fault in each part leaves wires, bits and gates",
                "read '3=5:t2' = 1", "read '4' = -21", "counts = 3,1,5,0,0,2,0", "read '4=9' = -23",
                "counts = 3,1,5,0,0,2,0", "read '4=9:t' = -25", "counts = 3,1,5,0,0,2,0", "read '4=9:t0,' = -27",
                "counts = 3,1,5,0,0,2,0", "of(0, 1) = 2", "circuit() = -20", "counts = 3,1,5,0,0,2,0");
        Script.on("promise 7: sheets and the image stay behind a circuit",
                "flip(2) = 4", "image() = 1", "sheet(0, 0, 0) = 0", "read '6=3:t0' = 1", "drop(0) = 0",
                "restore() = 1", "counts = 3,0,4,0,0,1,1");
    }

    private static void numbers() {
        Script.on("term 3: numbers have 1 or 2 digits",
                "read '6=7:' = 0", "count(2) = 7", "read '6=07:' = 0", "count(2) = 7", "read '6=00:' = 0",
                "count(2) = 0", "read '6=63:' = 0", "count(2) = 63");
        Script.on("term 3: a third digit can't stand there",
                "read '6=000:' = -24", "read '6=007:' = -24", "read '6=630:' = -24", "read '6=100:' = -24",
                "read '6=0000:' = -24", "read '2=001:' = -24");
        Script.on("term 3: a number that is not as told: its first digit's place",
                "read '6=64:' = -22", "read '2=4:' = -22", "read '2=10:' = -22", "read '5=32:' = -22",
                "read '6=  64:' = -24", "read ' 6 = 99:' = -25");
        Script.on("term 3: of both the first digit's",
                "read '6=640:' = -22", "read '2=040:' = -22", "read '6=64' = -22", "read '6=64x' = -22",
                "read '2=4 1:' = -22", "read '2=4' = -22", "read '2=999' = -22");
    }

    private static void theEnd() {
        String whole = "6=63:t0,b012!";
        int[] due = {-20, -21, -22, -23, -24, 0, -26, 1, -28, -29, -30, -31, 2, 2};
        for (int letters = 0; letters < due.length; letters++) {
            reads(whole.substring(0, letters), due[letters]);
        }
        Script.on("term 3: the end: how many there are, blanks too",
                "read '' = -20", "read '   ' = -23", "read '3  ' = -23", "read '3=  ' = -24", "read '3=1 ' = -24",
                "read '3:t ' = -24", "read '3:t0,  ' = -27", "read ' 3' = -22");
    }

    private static void blanks() {
        Script.on("term 3: blanks count for nothing, wherever they stand",
                "read '   3   =   5   :   t   0   ,   b   2   1   0   !   ,   t   1   ' = 3",
                "counts = 3,3,5,0,2,2,0", "of(1, 1) = 2", "of(1, 2) = 1", "of(1, 3) = 0", "read ' 4 : ' = 0",
                "count(0) = 4");
        Script.on("term 3: but end a number",
                "read '6=6 3:' = -24", "read '6=0 0:' = -24", "read '6=6  3:' = -25", "read '6=63 0:' = -25",
                "read '6=6 :' = 0", "count(2) = 6", "read '6=63 :' = 0", "count(2) = 63");
        Script.on("term 3: the place of the first letter behind blanks",
                "read '  7:' = -22", "read '3  x' = -23", "read '3=  x' = -24", "read '3=1  x' = -25",
                "read '3:  x' = -24", "read '3:t  x' = -25", "read '3:i0  0' = -26", "read '3:t0  x' = -26",
                "read '3:t0!  x' = -27", "read '3:t0,  x' = -27", "read '3  3:' = -23");
    }

    private static void longest() {
        String gates = "6=63:b012!,b123!,b234!,b345!,b450!,b501!,p012!,p123!,p234!,p345!,p450!,p501!,b543!,b432!,b321!,b210!";
        String blank = " ".repeat(110 - gates.length());
        Script.on("promise 7: a tape of 110 letters is read whole",
                "read '" + gates + blank + "' = 16", "counts = 6,16,63,0,65535,6,0", "read '" + blank + gates + "' = 16",
                "read '" + gates.replace("!", "") + "' = 16", "count(4) = 0", "of(15, 0) = 3", "of(15, 1) = 2");
        Script.on("promise 7: the 110th letter can't stand there, and the end behind it",
                "read '" + " ".repeat(107) + "3:x' = -129", "read '" + " ".repeat(107) + "3:t' = -130",
                "read '" + " ".repeat(109) + "x' = -129", "read '" + " ".repeat(110) + "' = -130",
                "read '" + " ".repeat(108) + "3:' = 0", "read '" + " ".repeat(106) + "3:t2' = 1",
                "read '" + " ".repeat(106) + "3:t3' = -129", "read '" + " ".repeat(105) + "3:t0,' = -130",
                "read '" + " ".repeat(108) + "3=' = -130", "read '" + " ".repeat(107) + "3=1' = -130",
                "read '" + " ".repeat(109) + "3' = -130", "read '" + " ".repeat(105) + "3:t0!' = 1");
        Script.on("promise 7: the letters of an earlier, longer tape are behind the end",
                "read '3=5:t0,t1!' = 2", "read '3=5:t0,t1' = 2", "count(4) = 0", "read '3=5:t0,t' = -28",
                "read '3=5:t0,' = -27", "read '3=5:t0' = 1", "read '3=5:t' = -25", "read '3=5:' = 0", "read '3=5' = -23",
                "read '3=' = -22", "read '3' = -21", "read '' = -20", "read '6=63:' = 0", "read '6=6' = -23");
    }

    /** Texts with one letter put in, changed or left out at each place, against a reader of another make. */
    private static void everyLetterAtEveryPlace() {
        String[] texts = {"3=5:t0,i21!", "6=63:p345,c05", "2:c01", "2 = 1 : i 0 1 ! , t 1", "4=9:b312!",
            "2:" + SIXTEEN, "6 =7:"};
        for (String text : texts) {
            for (int at = 0; at <= text.length(); at++) {
                String ahead = text.substring(0, at);
                String behind = text.substring(at);
                compared(ahead);
                String rest = behind.isEmpty() ? "" : behind.substring(1);
                compared(ahead + rest);
                for (char letter = 32; letter <= 126; letter++) {
                    compared(ahead + letter + behind);
                    compared(ahead + letter + rest);
                }
            }
        }
    }

    private static void compared(String text) {
        PlainText plain = new PlainText(text);
        int due = plain.isCircuit() ? plain.gates.size() : -20 - plain.fault;
        int got = Script.read(new MirrorWires(), text);
        if (got != due) {
            Script.due("reads '" + text + "'", got, due);
        }
    }
}
