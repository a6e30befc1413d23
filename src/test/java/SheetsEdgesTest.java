/** Edges of promises 35 to 40 and of term 3's CAME: a test for each sentence that names one. */
public final class SheetsEdgesTest {
    private static final String[] SIX = {"sheet(0, 2, 6) = 6", "film(0, 6, 0, 2, 0) = 6"};

    private SheetsEdgesTest() { }

    public static void main(String[] args) {
        sheet();
        drop();
        itemPlaces();
        itemLowestBits();
        copyNumbers();
        copyAsIfTakenAhead();
        copyRefused();
        filmNumbers();
        filmPlaces();
        cameNumbers();
        camePlaces();
        deaths();
        kinds();
        ups();
        Script.end();
    }

    private static void sheet() {
        for (int n = 0; n <= 24; n++) {
            for (int at = 0; at < 16; at++) {
                MirrorWires x = new MirrorWires();
                int sheet = at / 4;
                int lane = at % 4;
                Script.due("a row of 0 to 24 items: " + n, x.sheet(sheet, lane, n), n);
                Script.due("item 0", x.item(sheet, lane, 0, 0), n > 0 ? 1 : MirrorWires.INDEX);
                Script.due("the last item", x.item(sheet, lane, n - 1, 0), n > 0 ? 1 : MirrorWires.INDEX);
                Script.due("an item beyond it", x.item(sheet, lane, n, 0), MirrorWires.INDEX);
                Script.due("another lane", x.item(sheet, 3 - lane, 0, 0), MirrorWires.CAST);
                Script.due("it had", x.drop(sheet), n);
            }
        }
        Script.on("promise 37: BAD: also n above 24",
                "sheet(0, 0, 25) = BAD", "sheet(0, 0, 2147483647) = BAD", "drop(0) = NULL", "sheet(0, 0, 24) = 24");
        Script.on("promise 37: SIZE: n below 0",
                "sheet(0, 0, -1) = SIZE", "sheet(3, 3, -2147483648) = SIZE", "drop(0) = NULL", "drop(3) = NULL");
        Script.on("promise 37: sheets 0 .. 3, lanes 0 .. 3",
                "sheet(4, 0, 1) = BAD", "sheet(-1, 0, 1) = BAD", "sheet(2147483647, 0, 1) = BAD",
                "sheet(-2147483648, 0, 1) = BAD", "sheet(0, 4, 1) = BAD", "sheet(0, -1, 1) = BAD",
                "sheet(0, 2147483647, 1) = BAD", "sheet(0, -2147483648, 1) = BAD", "sheet(3, 3, 1) = 1",
                "sheet(0, 0, 1) = 1");
        Script.on("promise 37: BAD is named ahead of SIZE",
                "sheet(4, 0, -1) = BAD", "sheet(-1, 0, -1) = BAD", "sheet(0, 4, -1) = BAD", "sheet(0, -1, -1) = BAD");
        Script.on("promise 37: what is refused leaves the row that was there",
                "sheet(0, 1, 2) = 2", "item(0, 1, 1, 5) = 1", "sheet(0, 2, 25) = BAD", "sheet(0, 2, -1) = SIZE",
                "sheet(0, 4, 3) = BAD", "came(-2, 5, 0, 1, 1, 1) = 1", "drop(0) = 2");
        Script.on("promise 37: a new row, in place of a longer one, of one of another lane, of its like",
                "sheet(0, 1, 24) = 24", "item(0, 1, 1, 5) = 1", "sheet(0, 1, 2) = 2", "item(0, 1, 2, 5) = INDEX",
                "came(-2, 0, 0, 1, 1, 1) = 1", "sheet(0, 3, 2) = 2", "item(0, 1, 0, 5) = CAST", "item(0, 3, 0, 5) = 1",
                "sheet(0, 3, 2) = 2", "came(-2, 0, 0, 3, 0, 1) = 1");
        Script.on("promise 37: the other sheets stay", "sheet(1, 0, 3) = 3", "sheet(2, 1, 4) = 4", "drop(0) = NULL",
                "drop(1) = 3", "drop(3) = NULL", "drop(2) = 4");
    }

    private static void drop() {
        Script.on("promise 38: BAD: sheets 0 .. 3", "drop(4) = BAD", "drop(-1) = BAD", "drop(2147483647) = BAD",
                "drop(-2147483648) = BAD");
        Script.on("promise 38: NULL: it holds nothing; a row of 0 items is not nothing",
                "drop(0) = NULL", "sheet(0, 0, 0) = 0", "drop(0) = 0", "drop(0) = NULL", "sheet(0, 0, 24) = 24",
                "drop(0) = 24", "drop(0) = NULL");
        Script.on("promise 38: a sheet holds nothing then",
                "sheet(0, 2, 8) = 8", "drop(0) = 8", "item(0, 2, 0, 1) = NULL", "film(0, 1, 0, 2, 0) = NULL",
                "came(-1, 0, 0, 2, 0, 1) = NULL", "sheet(1, 2, 8) = 8", "copy(0, 0, 1, 0, 1) = NULL",
                "copy(1, 0, 0, 0, 1) = NULL", "copy(0, 0, 0, 0, 0) = NULL");
    }

    private static void itemPlaces() {
        Script.on("promise 39: INDEX: items at and beyond a row's ends",
                "sheet(0, 2, 24) = 24", "item(0, 2, 0, 1) = 1", "item(0, 2, 23, 1) = 1", "item(0, 2, 24, 1) = INDEX",
                "item(0, 2, -1, 1) = INDEX", "item(0, 2, 2147483647, 1) = INDEX", "item(0, 2, -2147483648, 1) = INDEX");
        Script.on("promise 39: a row of 0 items has none", "sheet(0, 2, 0) = 0", "item(0, 2, 0, 1) = INDEX",
                "item(0, 2, -1, 1) = INDEX");
        Script.on("promise 39: BAD ahead of NULL ahead of CAST ahead of INDEX",
                "item(4, 0, 99, 1) = BAD", "item(-1, 0, 99, 1) = BAD", "item(0, 4, 99, 1) = BAD", "item(0, -1, 99, 1) = BAD",
                "item(0, 1, 99, 1) = NULL", "sheet(0, 2, 3) = 3", "item(0, 1, 99, 1) = CAST", "item(0, 4, 99, 1) = BAD",
                "item(0, 2, 99, 1) = INDEX", "item(0, 2, 2, 1) = 1");
        Script.on("promise 39: the items beside it stay",
                "sheet(0, 2, 3) = 3", "item(0, 2, 0, 1) = 1", "item(0, 2, 2, 3) = 1", "item(0, 2, 1, 2) = 1",
                "came(-2, 1, 0, 2, 0, 3) = 1", "item(0, 2, 3, 9) = INDEX", "came(-2, 1, 0, 2, 0, 3) = 1");
    }

    /** With no gates a state goes to itself, so ups is 1 just where the item is that state. */
    private static void itemLowestBits() {
        long[] wraps = {1L << 8, 1L << 16, 1L << 32};
        for (int lane = 0; lane < 4; lane++) {
            for (int state = 0; state < 64; state += 7) {
                MirrorWires x = new MirrorWires();
                x.wires(6);
                x.sheet(lane, lane, 1);
                for (int w = 0; w < 3; w++) {
                    for (long times : new long[] {1, -1, 3, -128}) {
                        x.item(lane, lane, 0, state + times * wraps[w]);
                        boolean wrapped = w >= lane;
                        Script.due("its lowest bits: lane " + lane + ", " + (state + times * wraps[w]),
                                x.came(-2, state, lane, lane, 0, 1), wrapped ? 1 : MirrorWires.NONE);
                    }
                }
            }
        }
        Script.on("promise 39: an item below 0, and half a lane's numbers more, is no state",
                "sheet(0, 0, 1) = 1", "item(0, 0, 0, -1) = 1", "came(-2, 7, 0, 0, 0, 1) = NONE", "item(0, 0, 0, 131) = 1",
                "came(-2, 3, 0, 0, 0, 1) = NONE", "item(0, 0, 0, 255) = 1", "came(-2, 7, 0, 0, 0, 1) = NONE");
        Script.on("promise 39: the longest long", "sheet(0, 3, 1) = 1", "item(0, 3, 0, 9223372036854775807) = 1",
                "came(-2, 7, 0, 3, 0, 1) = NONE", "item(0, 3, 0, -9223372036854775808) = 1",
                "came(-2, 0, 0, 3, 0, 1) = NONE", "sheet(0, 2, 1) = 1", "item(0, 2, 0, -9223372036854775808) = 1",
                "came(-2, 0, 0, 2, 0, 1) = 1");
    }

    private static void copyNumbers() {
        Script.on("promise 40: all items, none, none at the ends", Rows.with(SIX, "sheet(1, 2, 6) = 6",
                "copy(0, 0, 1, 0, 6) = 6", "came(-2, 0, 1, 2, 0, 6) = 1", "copy(0, 0, 1, 0, 0) = 0",
                "copy(0, 6, 1, 6, 0) = 0", "copy(0, 6, 1, 0, 0) = 0", "copy(0, 0, 1, 6, 0) = 0",
                "came(-2, 0, 1, 2, 0, 6) = 1"));
        Script.on("promise 40: rows of 0 items, and of 24",
                "sheet(0, 0, 0) = 0", "sheet(1, 0, 0) = 0", "copy(0, 0, 1, 0, 0) = 0", "copy(0, 0, 1, 0, 1) = INDEX",
                "copy(0, 1, 1, 0, 0) = INDEX", "sheet(2, 0, 24) = 24", "sheet(3, 0, 24) = 24", "copy(2, 0, 3, 0, 24) = 24",
                "copy(2, 0, 3, 0, 25) = INDEX", "copy(2, 23, 3, 0, 1) = 1", "copy(2, 0, 3, 23, 1) = 1",
                "copy(2, 24, 3, 0, 1) = INDEX", "copy(2, 0, 3, 24, 1) = INDEX", "copy(2, 0, 0, 0, 0) = 0",
                "copy(2, 24, 0, 0, 0) = 0");
        Script.on("promise 40: INDEX: beyond the ends of the one or the other", Rows.with(SIX, "sheet(1, 2, 4) = 4",
                "copy(0, 0, 1, 0, 5) = INDEX", "copy(0, 3, 1, 0, 4) = INDEX", "copy(0, 0, 1, 1, 4) = INDEX",
                "copy(0, 6, 1, 0, 1) = INDEX", "copy(0, 7, 1, 0, 0) = INDEX", "copy(0, 0, 1, 5, 0) = INDEX",
                "copy(0, -1, 1, 0, 1) = INDEX", "copy(0, 0, 1, -1, 1) = INDEX", "copy(0, -1, 1, 0, 0) = INDEX",
                "copy(0, 0, 1, -1, 0) = INDEX", "copy(0, 0, 1, 0, -1) = INDEX", "copy(0, 0, 1, 0, -2147483648) = INDEX",
                "copy(0, 1, 1, 0, 2147483647) = INDEX", "copy(0, 2147483647, 1, 0, 2147483647) = INDEX",
                "copy(0, -2147483648, 1, 0, 1) = INDEX", "copy(0, 0, 1, -2147483648, 2147483647) = INDEX",
                "copy(0, 2, 1, 0, 4) = 4", "came(-2, 2, 1, 2, 0, 4) = 1"));
        Script.on("promise 40: the items beside them stay", Rows.with(SIX, "sheet(1, 2, 6) = 6", "item(1, 2, 0, 7) = 1",
                "item(1, 2, 5, 7) = 1", "copy(0, 1, 1, 1, 4) = 4", "came(-2, 7, 1, 2, 0, 1) = 1",
                "came(-2, 1, 1, 2, 1, 4) = 1", "came(-2, 7, 1, 2, 5, 1) = 1", "came(-2, 0, 0, 2, 0, 6) = 1"));
    }

    /** All moves of a part of a row of six over itself, told item by item. */
    private static void copyAsIfTakenAhead() {
        for (int n = 0; n <= 6; n++) {
            for (int i = 0; i <= 6 - n; i++) {
                for (int j = 0; j <= 6 - n; j++) {
                    MirrorWires x = new MirrorWires();
                    x.sheet(0, 1, 6);
                    x.film(0, 6, 0, 1, 0);
                    String by = "copy(0, " + i + ", 0, " + j + ", " + n + ")";
                    Script.due(by, x.copy(0, i, 0, j, n), n);
                    for (int at = 0; at < 6; at++) {
                        int due = at >= j && at < j + n ? i + at - j : at;
                        Script.due(by + ": item " + at, x.came(-2, due, 0, 1, at, 1), 1);
                    }
                }
            }
        }
        for (int lane = 0; lane < 4; lane++) {
            MirrorWires x = new MirrorWires();
            x.sheet(2, lane, 3);
            x.sheet(3, lane, 2);
            x.film(4, 3, 2, lane, 0);
            Script.due("another one, of lane " + lane, x.copy(2, 1, 3, 0, 2), 2);
            Script.due("what came to it", x.came(-2, 5, 3, lane, 0, 2), 1);
            Script.due("what it was taken from stays", x.came(-2, 4, 2, lane, 0, 3), 1);
        }
    }

    private static void copyRefused() {
        Script.on("promise 40: BAD ahead of NULL (either) ahead of CAST ahead of INDEX",
                "copy(4, 9, 0, 9, 9) = BAD", "copy(-1, 9, 0, 9, 9) = BAD", "copy(0, 9, 4, 9, 9) = BAD",
                "copy(0, 9, -1, 9, 9) = BAD", "copy(2147483647, 0, 0, 0, 0) = BAD", "copy(0, 0, -2147483648, 0, 0) = BAD",
                "copy(0, 9, 1, 9, 9) = NULL", "sheet(0, 2, 3) = 3", "copy(0, 9, 1, 9, 9) = NULL",
                "copy(1, 9, 0, 9, 9) = NULL", "copy(0, 9, 4, 9, 9) = BAD", "sheet(1, 1, 3) = 3",
                "copy(0, 9, 1, 9, 9) = CAST", "copy(1, 0, 0, 0, -1) = CAST", "copy(1, 0, 0, 0, 0) = CAST",
                "copy(0, 9, 0, 9, 9) = INDEX", "copy(0, 0, 0, 0, 3) = 3");
        for (int at = 0; at < 16; at++) {
            MirrorWires x = new MirrorWires();
            x.sheet(0, at / 4, 1);
            x.sheet(1, at % 4, 1);
            Script.due("CAST: of unlike lanes " + at / 4 + ", " + at % 4, x.copy(0, 0, 1, 0, 1),
                    at / 4 == at % 4 ? 1 : MirrorWires.CAST);
        }
        Script.on("promise 40: what is refused takes nothing over, not a part of it", Rows.with(SIX, "sheet(1, 2, 4) = 4",
                "copy(0, 1, 1, 0, 5) = INDEX", "came(-2, 0, 1, 2, 0, 1) = 1", "copy(0, 3, 0, 0, 4) = INDEX",
                "came(-2, 0, 0, 2, 0, 6) = 1"));
    }

    private static void filmNumbers() {
        Script.on("promise 36: n is 1 .. 24", "wires(5) = 3", "sheet(0, 0, 24) = 24", "film(0, 0, 0, 0, 0) = BAD",
                "film(0, -1, 0, 0, 0) = BAD", "film(0, 25, 0, 0, 0) = BAD", "film(0, 2147483647, 0, 0, 0) = BAD",
                "film(0, -2147483648, 0, 0, 0) = BAD", "film(1, 2147483647, 0, 0, 0) = BAD", "film(0, 1, 0, 0, 0) = 1",
                "film(0, 24, 0, 0, 0) = 24");
        for (int n = 2; n <= 6; n++) {
            int states = 1 << n;
            MirrorWires x = new MirrorWires();
            x.wires(n);
            x.sheet(0, 0, 24);
            for (int many = 1; many <= 24; many++) {
                int from = states - many;
                String by = many + " of " + n + " wires";
                Script.due("all of them states: " + by, x.film(from, many, 0, 0, 0), from >= 0 ? many : MirrorWires.BAD);
                Script.due("one beyond the last: " + by, x.film(from + 1, many, 0, 0, 0), MirrorWires.BAD);
            }
        }
        Script.on("promise 36: BAD ahead of NULL ahead of CAST ahead of INDEX",
                "film(8, 1, 0, 0, 99) = BAD", "film(-1, 1, 0, 0, 99) = BAD", "film(7, 2, 0, 0, 99) = BAD",
                "film(0, 0, 0, 0, 99) = BAD", "film(0, 25, 0, 0, 99) = BAD", "film(0, 1, 4, 0, 99) = BAD",
                "film(0, 1, -1, 0, 99) = BAD", "film(0, 1, 0, 4, 99) = BAD", "film(0, 1, 0, -1, 99) = BAD",
                "film(0, 1, 0, 1, 99) = NULL", "sheet(0, 2, 3) = 3", "film(0, 1, 0, 1, 99) = CAST",
                "film(0, 0, 0, 1, 99) = BAD", "film(0, 1, 0, 2, 99) = INDEX", "film(0, 3, 0, 2, 0) = 3");
    }

    private static void filmPlaces() {
        Script.on("promise 36: INDEX: items at and beyond a row's ends",
                "sheet(0, 1, 4) = 4", "film(0, 4, 0, 1, 0) = 4", "film(0, 5, 0, 1, 0) = INDEX", "film(0, 4, 0, 1, 1) = INDEX",
                "film(0, 1, 0, 1, 3) = 1", "film(0, 1, 0, 1, 4) = INDEX", "film(0, 1, 0, 1, -1) = INDEX",
                "film(0, 2, 0, 1, -1) = INDEX", "film(0, 1, 0, 1, 2147483647) = INDEX", "film(0, 8, 0, 1, 2147483647) = INDEX",
                "film(0, 1, 0, 1, -2147483648) = INDEX");
        Script.on("promise 36: a row of 0 items", "sheet(0, 1, 0) = 0", "film(0, 1, 0, 1, 0) = INDEX");
        Script.on("promise 36: what is refused puts nothing there, not a part of it",
                "sheet(0, 1, 4) = 4", "film(3, 5, 0, 1, 0) = INDEX", "came(-2, 0, 0, 1, 0, 1) = 1", "film(3, 3, 0, 1, 2) = INDEX",
                "came(-2, 0, 0, 1, 2, 1) = 1", "came(-2, 0, 0, 1, 3, 1) = 1");
        Script.on("promise 36: an item each: those ahead of them and behind them stay",
                "sheet(0, 1, 5) = 5", "item(0, 1, 0, 7) = 1", "item(0, 1, 4, 7) = 1", "film(2, 3, 0, 1, 1) = 3",
                "came(-2, 7, 0, 1, 0, 1) = 1", "came(-2, 2, 0, 1, 1, 3) = 1", "came(-2, 7, 0, 1, 4, 1) = 1");
        Script.on("promise 36: the highest state to the least lane", "read '6:t0' = 1", "sheet(0, 0, 1) = 1",
                "film(62, 1, 0, 0, 0) = 1", "came(-2, 62, 0, 0, 0, 1) = 1", "came(-2, 63, 0, 0, 0, 1) = 2");
        Script.on("promise 36: what they go to, whatever the bits are and wherever they stand",
                "read '3=7:t0,i10' = 2", "step(2) = 6", "sheet(0, 3, 8) = 8", "film(0, 8, 0, 3, 0) = 8",
                "counts = 3,2,6,2,0,2,2", "came(-2, 0, 0, 3, 0, 8) = 1", "wires(3) = 3", "came(-2, 3, 0, 3, 0, 1) = 1",
                "came(-2, 0, 0, 3, 1, 1) = 1", "came(-2, 1, 0, 3, 2, 1) = 1", "came(-2, 2, 0, 3, 3, 1) = 1");
    }

    private static void cameNumbers() {
        Script.on("promise 35: n is 1 .. 8", "wires(4) = 3", "sheet(0, 0, 24) = 24", "film(0, 16, 0, 0, 0) = 16",
                "came(-2, 0, 0, 0, 0, 0) = BAD", "came(-2, 0, 0, 0, 0, -1) = BAD", "came(-2, 0, 0, 0, 0, 9) = BAD",
                "came(-2, 0, 0, 0, 0, 2147483647) = BAD", "came(-2, 1, 0, 0, 0, 2147483647) = BAD",
                "came(-2, 0, 0, 0, 0, -2147483648) = BAD", "came(-2, 0, 0, 0, 0, 1) = 1", "came(-2, 0, 0, 0, 0, 8) = 1");
        for (int n = 2; n <= 6; n++) {
            int states = 1 << n;
            MirrorWires x = new MirrorWires();
            x.wires(n);
            x.sheet(0, 3, 8);
            for (int many = 1; many <= 8 && many <= states; many++) {
                int from = states - many;
                x.film(from, many, 0, 3, 0);
                Script.due("up to the last state, " + n + " wires", x.came(-2, from, 0, 3, 0, many), 1);
                Script.due("a state and n beyond the last one", x.came(-2, from + 1, 0, 3, 0, many), MirrorWires.BAD);
                Script.due("likewise by deaths", x.came(-1, from + 1, 0, 3, 0, many), MirrorWires.BAD);
            }
        }
        Script.on("promise 35: gates -2, -1, 0 to the last",
                "sheet(0, 0, 1) = 1", "came(-3, 0, 0, 0, 0, 1) = BAD", "came(-2, 0, 0, 0, 0, 1) = 1",
                "came(-1, 0, 0, 0, 0, 1) = 0", "came(0, 0, 0, 0, 0, 1) = BAD", "gate(0, 0, 0, 0) = 0",
                "came(0, 0, 0, 0, 0, 1) = 0", "came(1, 0, 0, 0, 0, 1) = BAD", "came(2147483647, 0, 0, 0, 0, 1) = BAD",
                "came(-2147483648, 0, 0, 0, 0, 1) = BAD");
        Script.on("promise 35: BAD ahead of NULL ahead of CAST ahead of INDEX",
                "came(-3, 0, 0, 0, 99, 1) = BAD", "came(0, 0, 0, 0, 99, 1) = BAD", "came(-1, 8, 0, 0, 99, 1) = BAD",
                "came(-1, -1, 0, 0, 99, 1) = BAD", "came(-1, 7, 0, 0, 99, 2) = BAD", "came(-1, 0, 0, 0, 99, 0) = BAD",
                "came(-1, 0, 0, 0, 99, 9) = BAD", "came(-1, 0, 4, 0, 99, 1) = BAD", "came(-1, 0, -1, 0, 99, 1) = BAD",
                "came(-1, 0, 0, 4, 99, 1) = BAD", "came(-1, 0, 0, -1, 99, 1) = BAD", "came(-1, 0, 0, 1, 99, 1) = NULL",
                "came(-2, 0, 0, 1, 99, 1) = NULL", "sheet(0, 2, 3) = 3", "came(-1, 0, 0, 1, 99, 1) = CAST",
                "came(-2, 0, 0, 1, 99, 1) = CAST", "came(-1, 0, 0, 1, 99, 0) = BAD", "came(-1, 0, 0, 2, 99, 1) = INDEX",
                "came(-2, 0, 0, 2, 99, 1) = INDEX", "came(-2, 1, 0, 2, 0, 1) = NONE");
    }

    private static void camePlaces() {
        Script.on("promise 35: INDEX: items at and beyond a row's ends",
                "sheet(0, 1, 4) = 4", "film(0, 4, 0, 1, 0) = 4", "came(-2, 0, 0, 1, 0, 4) = 1", "came(-2, 0, 0, 1, 0, 5) = INDEX",
                "came(-2, 0, 0, 1, 1, 4) = INDEX", "came(-2, 3, 0, 1, 3, 1) = 1", "came(-2, 3, 0, 1, 4, 1) = INDEX",
                "came(-2, 3, 0, 1, -1, 1) = INDEX", "came(-2, 0, 0, 1, -1, 2) = INDEX",
                "came(-2, 0, 0, 1, 2147483647, 8) = INDEX", "came(-2, 0, 0, 1, -2147483648, 8) = INDEX",
                "came(-1, 3, 0, 1, 4, 1) = INDEX", "came(-1, 3, 0, 1, -1, 1) = INDEX");
        Script.on("promise 35: a row of 0 items", "sheet(0, 1, 0) = 0", "came(-2, 0, 0, 1, 0, 1) = INDEX",
                "came(-1, 0, 0, 1, 0, 1) = INDEX");
        Script.on("promise 35: the last 8 items of 24, and the items beside them do not count",
                "sheet(3, 3, 24) = 24", "film(0, 8, 3, 3, 16) = 8", "came(-2, 0, 3, 3, 16, 8) = 1", "item(3, 3, 15, 9) = 1",
                "came(-2, 0, 3, 3, 16, 8) = 1", "item(3, 3, 23, 0) = 1", "came(-2, 0, 3, 3, 16, 7) = 1",
                "came(-2, 0, 3, 3, 16, 8) = NONE");
        Script.on("promise 35: nothing is changed",
                "read '3=5:t0,t1!' = 2", "step(2) = 4", "sheet(0, 0, 8) = 8", "film(0, 8, 0, 0, 0) = 8",
                "came(-1, 0, 0, 0, 0, 8) = 2", "came(-2, 0, 0, 0, 0, 8) = 1", "came(1, 0, 0, 0, 0, 8) = 7",
                "counts = 3,2,4,2,2,1,2", "of(0, 0) = 0", "of(0, 4) = 0", "of(1, 0) = 0", "came(-1, 0, 0, 0, 0, 8) = 2");
    }

    private static void deaths() {
        Script.on("term 3: deaths: no gates, no gate; rows that no death tells of",
                "sheet(0, 2, 8) = 8", "film(0, 8, 0, 2, 0) = 8", "came(-1, 0, 0, 2, 0, 8) = 0", "read '3:t0,t1' = 2",
                "came(-1, 0, 0, 2, 0, 8) = 0", "item(0, 2, 0, 64) = 1", "came(-1, 0, 0, 2, 0, 1) = 0",
                "item(0, 2, 0, -1) = 1", "came(-1, 0, 0, 2, 0, 1) = 0");
        Script.on("term 3: deaths: a gate that is dead counts as it is",
                "read '3:t0!,t1!,i20' = 3", "sheet(0, 2, 8) = 8", "film(0, 8, 0, 2, 0) = 8", "came(-1, 0, 0, 2, 0, 8) = 3",
                "came(-1, 0, 0, 2, 0, 1) = 7", "heal(0) = 2", "came(-1, 0, 0, 2, 0, 8) = 1");
        Script.on("term 3: deaths: each alone, not two together",
                "sheet(0, 2, 8) = 8", "film(0, 8, 0, 2, 0) = 8", "read '3:t0,t0,t1,t1' = 4", "came(-1, 0, 0, 2, 0, 8) = 0",
                "read '3:t0' = 1", "came(-1, 0, 0, 2, 0, 8) = 1");
        Script.on("term 3: deaths: sets are bits: gate 15, all 16",
                "sheet(0, 2, 4) = 4", "film(0, 4, 0, 2, 0) = 4",
                "read '2:t0,t0,t0,t0,t0,t0,t0,t0,t0,t0,t0,t0,t0,t0,t1!,t1' = 16", "came(-1, 0, 0, 2, 0, 4) = 32768",
                "read '2:t0!,t0!,t0!,t0!,t0!,t0!,t0!,t0!,t0!,t0!,t0!,t0!,t0!,t0!,t1!,t1!' = 16",
                "came(-1, 0, 0, 2, 0, 4) = 65535");
        Script.on("term 3: deaths: a row that tells less leaves more of them",
                "read '3:t0,i10,b210' = 3", "sheet(0, 2, 8) = 8", "kill(1) = 2", "film(0, 8, 0, 2, 0) = 8", "heal(1) = 0",
                "came(-1, 0, 0, 2, 0, 8) = 2", "came(-1, 1, 0, 2, 1, 1) = 6", "kill(2) = 4", "film(0, 1, 0, 2, 0) = 1",
                "heal(2) = 0", "came(-1, 0, 0, 2, 0, 1) = 4", "came(-1, 1, 0, 2, 1, 1) = 6");
    }

    private static void kinds() {
        Script.on("term 3: kinds: none by which it would be so", "read '3:b012' = 1", "sheet(0, 2, 1) = 1",
                "item(0, 2, 0, 64) = 1", "came(0, 0, 0, 2, 0, 1) = 0", "item(0, 2, 0, 0) = 1", "came(0, 0, 0, 2, 0, 1) = 30");
        Script.on("term 3: kinds: of those whose wires, as they are, would be unlike: A 0 with no B and C: turn alone",
                "sheet(0, 2, 1) = 1", "read '3:t0!' = 1", "came(0, 0, 0, 2, 0, 1) = 1");
        Script.on("term 3: kinds: A 1 with no B and C: B and C are 0, which are alike",
                "sheet(0, 2, 1) = 1", "read '3:t1!' = 1", "came(0, 0, 0, 2, 0, 1) = 7");
        Script.on("term 3: kinds: A and B with no C, which is 0: unlike both, or alike one of them",
                "sheet(0, 2, 1) = 1", "read '3:i12!,i10!,c01!,c21!' = 4", "came(0, 0, 0, 2, 0, 1) = 31",
                "came(1, 0, 0, 2, 0, 1) = 7", "came(2, 0, 0, 2, 0, 1) = 7", "came(3, 0, 0, 2, 0, 1) = 31");
        Script.on("term 3: kinds: three wires may be of every kind",
                "sheet(0, 2, 1) = 1", "read '3:b012!,p210!' = 2", "came(0, 0, 0, 2, 0, 1) = 31",
                "came(1, 0, 0, 2, 0, 1) = 31");
        Script.on("term 3: kinds: a dead gate stays dead",
                "read '3:t2,b012!' = 2", "sheet(0, 2, 8) = 8", "film(0, 8, 0, 2, 0) = 8", "came(1, 0, 0, 2, 0, 8) = 31",
                "heal(1) = 0", "came(1, 0, 0, 2, 0, 8) = 0");
        kindsOneByOne();
    }

    /** A gate filmed as each kind is told as that kind, by all states of three wires. */
    private static void kindsOneByOne() {
        String[] texts = {"3:t0", "3:i01", "3:c01", "3:b012", "3:p012"};
        for (int kind = 0; kind < 5; kind++) {
            MirrorWires x = new MirrorWires();
            Script.read(x, texts[kind]);
            x.sheet(0, 1, 8);
            x.film(0, 8, 0, 1, 0);
            Script.read(x, "3:b012");
            Script.due("kind " + kind + " told by all states", x.came(0, 0, 0, 1, 0, 8), 1 << kind);
            Script.due("it is of its own kind still", x.of(0, 0), 3);
        }
    }

    private static void ups() {
        Script.on("term 3: ups: 1 on: no runs at all are none",
                "read '2:i10,t0' = 2", "sheet(0, 2, 4) = 4", "item(0, 2, 0, 1) = 1", "came(-2, 1, 0, 2, 0, 1) = 4",
                "came(-2, 0, 0, 2, 0, 1) = 1", "came(-2, 2, 0, 2, 0, 1) = 3");
        Script.on("term 3: ups: none: a number that is no state, states of two rings",
                "sheet(0, 2, 2) = 2", "item(0, 2, 0, 8) = 1", "came(-2, 0, 0, 2, 0, 1) = NONE", "item(0, 2, 0, -4) = 1",
                "came(-2, 0, 0, 2, 0, 1) = NONE", "item(0, 2, 0, 1) = 1", "came(-2, 0, 0, 2, 0, 2) = NONE");
        Script.on("term 3: ups: the first runs by which all go so, not some of them",
                "read '5:c01,c12,c34' = 3", "sheet(0, 2, 8) = 8", "item(0, 2, 0, 8) = 1", "item(0, 2, 1, 9) = 1",
                "came(-2, 8, 0, 2, 0, 2) = 6", "came(-2, 8, 0, 2, 0, 1) = 2", "came(-2, 9, 0, 2, 1, 1) = 6");
        int[] runs = {1, 2, 199, 200, 201, 202, 209, 210};
        for (int by : runs) {
            MirrorWires x = new MirrorWires();
            Script.read(x, "6:b124,i21,c02,c04,t5");
            x.sheet(0, 0, 8);
            for (int s = 0; s < 8; s++) {
                x.item(0, 0, s, x.far(s, by));
            }
            Script.due("ups, 1 .. 200: " + by, x.came(-2, 0, 0, 0, 0, 8), by <= 200 ? by : MirrorWires.NONE);
        }
    }
}
