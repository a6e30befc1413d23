/** Promises 35 to 40: came, film, sheet, drop, item, copy. */
public final class SheetsTest {
    private static final String LONG_ROUND = "6:b124,i21,c02,c04,t5";

    private SheetsTest() { }

    public static void main(String[] args) {
        sheets();
        items();
        copies();
        films();
        came();
        cameWrongly();
        Script.end();
    }

    private static void sheets() {
        Script.on("promises 37 and 38: sheet, drop",
                "drop(0) = NULL", "drop(4) = BAD", "drop(-1) = BAD", "sheet(0, 0, 24) = 24", "sheet(3, 3, 0) = 0",
                "sheet(4, 0, 1) = BAD", "sheet(-1, 0, 1) = BAD", "sheet(0, 4, 1) = BAD", "sheet(0, -1, 1) = BAD",
                "sheet(0, 0, 25) = BAD", "sheet(0, 0, -1) = SIZE", "sheet(4, 0, -1) = BAD", "sheet(0, 4, -1) = BAD",
                "sheet(0, 0, -2147483648) = SIZE", "drop(0) = 24", "drop(0) = NULL", "drop(3) = 0", "drop(3) = NULL",
                "sheet(1, 2, 5) = 5", "sheet(1, 3, 7) = 7", "item(1, 2, 0, 1) = CAST", "item(1, 3, 6, 1) = 1",
                "drop(1) = 7");
        Script.on("promise 37: a new row holds nothing but 0",
                "sheet(0, 2, 2) = 2", "item(0, 2, 1, 1) = 1", "sheet(0, 2, 2) = 2", "came(-2, 0, 0, 2, 1, 1) = 1");
    }

    /** An item is told by what would come of it: with no gates, state s goes to s by any number of runs. */
    private static void items() {
        Script.on("promise 39: item",
                "sheet(0, 0, 2) = 2", "sheet(1, 1, 2) = 2", "sheet(2, 2, 2) = 2", "sheet(3, 3, 2) = 2",
                "item(0, 0, 1, 259) = 1", "came(-2, 3, 0, 0, 1, 1) = 1",
                "item(0, 0, 1, 131) = 1", "came(-2, 3, 0, 0, 1, 1) = NONE",
                "item(1, 1, 1, 65539) = 1", "came(-2, 3, 1, 1, 1, 1) = 1",
                "item(1, 1, 1, 259) = 1", "came(-2, 3, 1, 1, 1, 1) = NONE",
                "item(2, 2, 1, 4294967299) = 1", "came(-2, 3, 2, 2, 1, 1) = 1",
                "item(2, 2, 1, 65539) = 1", "came(-2, 3, 2, 2, 1, 1) = NONE",
                "item(3, 3, 1, 4294967299) = 1", "came(-2, 3, 3, 3, 1, 1) = NONE",
                "item(3, 3, 1, 3) = 1", "came(-2, 3, 3, 3, 1, 1) = 1",
                "item(3, 3, 2, 3) = INDEX", "item(3, 3, -1, 3) = INDEX", "item(3, 2, 2, 3) = CAST",
                "item(3, 4, 0, 3) = BAD", "item(3, -1, 0, 3) = BAD", "item(4, 3, 0, 3) = BAD", "item(-1, 3, 0, 3) = BAD",
                "drop(3) = 2", "item(3, 2, 2, 3) = NULL", "item(3, 4, 0, 3) = BAD", "sheet(3, 3, 0) = 0",
                "item(3, 3, 0, 0) = INDEX");
    }

    private static void copies() {
        String[] six = {"sheet(0, 2, 6) = 6", "item(0, 2, 0, 0) = 1", "item(0, 2, 1, 1) = 1", "item(0, 2, 2, 2) = 1",
                "item(0, 2, 3, 3) = 1", "item(0, 2, 4, 4) = 1", "item(0, 2, 5, 5) = 1"};
        Script.on("promise 40: copy", Rows.with(six,
                "sheet(1, 2, 4) = 4", "copy(0, 2, 1, 1, 3) = 3", "came(-2, 2, 1, 2, 1, 3) = 1",
                "came(-2, 0, 1, 2, 0, 1) = 1", "came(-2, 0, 0, 2, 0, 6) = 1",
                "copy(0, 0, 1, 0, 0) = 0", "copy(0, 6, 1, 4, 0) = 0", "copy(0, 0, 1, 0, 5) = INDEX",
                "copy(0, 3, 1, 0, 4) = INDEX", "copy(0, -1, 1, 0, 1) = INDEX", "copy(0, 0, 1, -1, 1) = INDEX",
                "copy(0, 0, 1, 0, -1) = INDEX", "copy(0, 0, 1, 4, 1) = INDEX", "copy(0, 2147483647, 1, 0, 1) = INDEX",
                "copy(0, 1, 1, 0, 2147483647) = INDEX", "copy(0, 7, 1, 0, 0) = INDEX", "copy(4, 0, 1, 0, 1) = BAD",
                "copy(-1, 0, 1, 0, 1) = BAD", "copy(0, 0, 4, 0, 1) = BAD", "copy(0, 0, -1, 0, 1) = BAD",
                "copy(0, 0, 2, 0, 1) = NULL", "copy(2, 0, 0, 0, 1) = NULL", "copy(2, 9, 2, 9, 9) = NULL",
                "sheet(2, 1, 6) = 6", "copy(0, 0, 2, 9, 1) = CAST", "copy(2, 0, 0, 0, -1) = CAST"));
        Script.on("promise 40: on the same sheet, forwards", Rows.with(six,
                "copy(0, 0, 0, 1, 5) = 5", "came(-2, 0, 0, 2, 1, 5) = 1", "came(-2, 0, 0, 2, 0, 1) = 1"));
        Script.on("promise 40: on the same sheet, backwards", Rows.with(six,
                "copy(0, 1, 0, 0, 5) = 5", "came(-2, 1, 0, 2, 0, 5) = 1", "came(-2, 5, 0, 2, 5, 1) = 1"));
    }

    private static void films() {
        Script.on("promise 36: film",
                "read '5:i10,t0' = 2", "sheet(0, 0, 24) = 24", "film(0, 24, 0, 0, 0) = 24",
                "came(-2, 0, 0, 0, 0, 8) = 1", "came(-2, 16, 0, 0, 16, 8) = 1", "film(8, 24, 0, 0, 0) = 24",
                "came(-2, 24, 0, 0, 16, 8) = 1", "film(9, 24, 0, 0, 0) = BAD", "film(0, 25, 0, 0, 0) = BAD",
                "film(0, 0, 0, 0, 0) = BAD", "film(0, -1, 0, 0, 0) = BAD", "film(32, 1, 0, 0, 0) = BAD",
                "film(-1, 2, 0, 0, 0) = BAD", "film(31, 1, 0, 0, 23) = 1", "film(31, 1, 0, 0, 24) = INDEX",
                "film(30, 2, 0, 0, 23) = INDEX", "film(0, 1, 0, 0, -1) = INDEX", "film(0, 1, 0, 1, -1) = CAST",
                "film(0, 1, 1, 1, -1) = NULL", "film(0, 1, 0, 4, 0) = BAD", "film(0, 1, 0, -1, 0) = BAD",
                "film(0, 1, 4, 0, 0) = BAD", "film(0, 1, -1, 0, 0) = BAD", "film(0, 2147483647, 0, 0, 0) = BAD",
                "film(0, 1, 0, 0, 2147483647) = INDEX");
        Script.on("promise 36: the items ahead of them and behind them stay",
                "sheet(0, 3, 4) = 4", "item(0, 3, 0, 6) = 1", "item(0, 3, 3, 5) = 1", "film(2, 2, 0, 3, 1) = 2",
                "came(-2, 6, 0, 3, 0, 1) = 1", "came(-2, 2, 0, 3, 1, 2) = 1", "came(-2, 5, 0, 3, 3, 1) = 1");
        Script.on("promise 36: what is refused writes nothing",
                "sheet(0, 3, 2) = 2", "film(5, 2, 0, 3, 1) = INDEX", "came(-2, 0, 0, 3, 1, 1) = 1");
    }

    private static void came() {
        Script.on("promise 35: deaths",
                "read '3:t0,t1!,i20' = 3", "sheet(0, 2, 8) = 8",
                "film(0, 8, 0, 2, 0) = 8", "came(-1, 0, 0, 2, 0, 8) = 2", "kill(0) = 3", "film(0, 8, 0, 2, 0) = 8",
                "heal(0) = 2", "came(-1, 0, 0, 2, 0, 8) = 1", "came(-1, 3, 0, 2, 3, 1) = 1",
                "kill(2) = 6", "film(1, 1, 0, 2, 0) = 1", "heal(2) = 2", "came(-1, 1, 0, 2, 0, 1) = 6",
                "count(4) = 2", "item(0, 2, 0, -1) = 1", "came(-1, 1, 0, 2, 0, 1) = 0");
        Script.on("promise 35: kinds",
                "read '3:t1,c12,b012,t0,i21!' = 5", "sheet(0, 3, 8) = 8", "film(0, 8, 0, 3, 0) = 8",
                "came(0, 0, 0, 3, 0, 8) = 1", "came(1, 0, 0, 3, 0, 8) = 4", "came(2, 0, 0, 3, 0, 8) = 8",
                "came(3, 0, 0, 3, 0, 8) = 1", "came(4, 0, 0, 3, 0, 8) = 31", "count(1) = 5", "of(0, 0) = 0");
        Script.on("promise 35: kinds whose wires would be alike are left out",
                "read '3:t0' = 1", "sheet(0, 0, 1) = 1", "came(0, 0, 0, 0, 0, 1) = 0", "kill(0) = 1",
                "came(0, 0, 0, 0, 0, 1) = 1", "read '3:t1!,i02!,b012!' = 3", "came(0, 0, 0, 0, 0, 1) = 7",
                "came(1, 0, 0, 0, 0, 1) = 7", "came(2, 0, 0, 0, 0, 1) = 31", "heal(1) = 5",
                "came(1, 0, 0, 0, 0, 1) = 6");
        Script.on("promise 35: ups",
                "read '2:i10,t0' = 2", "sheet(0, 1, 4) = 4", "item(0, 1, 0, 3) = 1", "item(0, 1, 1, 0) = 1",
                "came(-2, 0, 0, 1, 0, 2) = 3", "came(-2, 1, 0, 1, 0, 2) = 2", "came(-2, 3, 0, 1, 0, 1) = 4",
                "item(0, 1, 1, 1) = 1", "came(-2, 0, 0, 1, 0, 2) = NONE", "came(-2, 0, 0, 1, 0, 1) = 3");
        longUps();
    }

    /** The states 0 to 7 are as they were by 210 runs first, so each row here is told by its own runs first. */
    private static void longUps() {
        for (int runs = 1; runs <= 203; runs++) {
            MirrorWires x = new MirrorWires();
            Script.read(x, LONG_ROUND);
            x.sheet(0, 2, 8);
            for (int s = 0; s < 8; s++) {
                x.item(0, 2, s, x.far(s, runs));
            }
            Script.due("ups by " + runs, x.came(-2, 0, 0, 2, 0, 8), runs <= 200 ? runs : -4);
        }
    }

    private static void cameWrongly() {
        Script.on("promise 35: wrong numbers, and what the machine finds",
                "read '3:t0,t1' = 2", "sheet(0, 2, 8) = 8", "film(0, 8, 0, 2, 0) = 8",
                "came(-3, 0, 0, 2, 0, 1) = BAD", "came(2, 0, 0, 2, 0, 1) = BAD", "came(-1, 8, 0, 2, 0, 1) = BAD",
                "came(-1, -1, 0, 2, 0, 1) = BAD", "came(-1, 0, 0, 2, 0, 0) = BAD", "came(-1, 0, 0, 2, 0, 9) = BAD",
                "came(-1, 0, 0, 2, 0, -1) = BAD", "came(-1, 1, 0, 2, 0, 8) = BAD", "came(-1, 7, 0, 2, 0, 2) = BAD",
                "came(-1, 0, 4, 2, 0, 1) = BAD", "came(-1, 0, -1, 2, 0, 1) = BAD", "came(-1, 0, 0, 4, 0, 1) = BAD",
                "came(-1, 0, 0, -1, 0, 1) = BAD", "came(-1, 0, 1, 2, 99, 1) = NULL", "came(-2, 0, 0, 1, 99, 1) = CAST",
                "came(0, 0, 0, 2, 8, 1) = INDEX", "came(0, 0, 0, 2, 1, 8) = INDEX", "came(0, 0, 0, 2, -1, 1) = INDEX",
                "came(0, 0, 0, 2, 2147483647, 8) = INDEX", "came(-2, 0, 0, 2, 0, 8) = 1", "came(0, 0, 0, 2, 0, 8) = 1");
        Script.on("promise 35: with 6 wires, 8 states from 56 on",
                "wires(6) = 3", "sheet(2, 0, 8) = 8", "film(56, 8, 2, 0, 0) = 8", "came(-2, 56, 2, 0, 0, 8) = 1",
                "came(-2, 57, 2, 0, 0, 8) = BAD", "sheet(2, 0, 24) = 24", "film(0, 24, 2, 0, 0) = 24",
                "came(-2, 0, 2, 0, 0, 9) = BAD", "came(-2, 0, 2, 0, 0, 8) = 1", "film(56, 8, 2, 0, 0) = 8",
                "came(-1, 56, 2, 0, 0, 8) = 0", "came(0, 56, 2, 0, 0, 8) = BAD");
    }
}
