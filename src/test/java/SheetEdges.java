/** WEEKS, STRIPES, IMAGES, SHEETS, and promises 30 to 40: a test for each sentence with a boundary. */
public final class SheetEdges {
    private static final int BAD = Edges.BAD, STATE = Edges.STATE, FULL = Edges.FULL, NONE = Edges.NONE;
    private static final long ALL = (1L << 36) - 1;

    public static void main(String[] args) {
        Edges.run(SheetEdges.class);
    }

    // ---- weeks, stripes.

    static void heightIs60AtMost() {
        Edges.term("A WEEK: each CELL of grass grows by its sun; HEIGHT is 60 at most.");
        int[][] grown = {{0, 0, 0}, {0, 9, 9}, {50, 9, 59}, {51, 9, 60}, {52, 9, 60}, {59, 0, 59}, {59, 1, 60},
            {59, 2, 60},
            {60, 0, 60}, {60, 9, 60}};
        for (int[] g : grown) {
            for (int c : new int[] {0, 35}) {
                Lawn x = Lawn.told("high " + g[0] + ";sun " + c + " " + g[1] + ";")
                    .due("week(1)", Math.max(g[2], Math.min(60, g[0] + 3)));
                x.due("cell(" + c + ", 1)", g[2]).due("cell(1, 1)", Math.min(60, g[0] + 3))
                    .due("cell(" + c + ", 2)", g[1]);
            }
        }
        // what is no grass does not grow; what was put begins at 0
        Lawn x = Lawn.told("row glxbhg;sun 2 9;sun 3 9;sun 4 9;").due("week(2)", 9);
        x.due("cell(0, 1)", 9).due("cell(1, 1)", 9).due("cell(2, 1)", 0).due("cell(3, 1)", 0).due("cell(4, 1)", 0);
        x.due("put(3, 0)", 3).due("cell(3, 1)", 0).due("week(1)", 12).due("cell(3, 1)", 9);
        // as many weeks one by one as at once
        Lawn one = Lawn.told("high 0;sun 0 1;sun 1 9;");
        for (int n = 1; n <= 61; n++) {
            one.due("week(1)", Math.min(60, 9 * n)).due("cell(0, 1)", Math.min(60, n));
            Lawn.told("high 0;sun 0 1;sun 1 9;").due("week(" + n + ")", Math.min(60, 9 * n))
                .due("cell(0, 1)", Math.min(60, n));
        }
    }

    static void weekIsOf1To99() {
        Edges.promise(30, "n WEEKS (1 to 99) go: the greatest HEIGHT then. BAD.");
        Lawn.busy().refusedBeyond(BAD, "week(%)", 1, 99);
        Lawn x = Lawn.told("high 0;sun 35 9;").refused(BAD, "week(0)", "week(100)").due("week(1)", 9)
            .due("cell(0, 1)", 3);
        x.due("week(99)", 60).due("cell(0, 1)", 60);
        Lawn still = Lawn.told(Lawn.rows("bbbbbg", "lbbbbb") + "sun 5 0;sun 6 1;high 0;").due("week(99)", 60)
            .due("cell(5, 1)", 0);
        still.due("put(6, 3)", 1).due("week(99)", 0);
        Lawn.told(Lawn.rows()).due("week(1)", 0).due("week(99)", 0);
    }

    static void highIsAboveV() {
        Edges.promise(31, "CELLS of grass that are above v (0 to 60) high (what 0), that will be in a WEEK and are "
            + "not (1): bits. BAD.");
        Lawn x = Lawn.busy();
        for (int what = 0; what < 2; what++) {
            x.refusedBeyond(BAD, "high(%, " + what + ")", 0, 60)
                .questions("high(0, " + what + ")", "high(60, " + what + ")");
        }
        x.refusedBeyond(BAD, "high(0, %)", 0, 1).refusedBeyond(BAD, "high(60, %)", 0, 1);
        for (int high = 0; high <= 60; high++) {
            Lawn grass = Lawn.told("high " + high + ";sun 1 0;sun 0 1;");
            grass.due("high(" + high + ", 0)", 0).due("high(" + high + ", 1)", high == 60 ? 0 : ALL & ~2);
            if (high > 0) {
                grass.due("high(" + (high - 1) + ", 0)", ALL).due("high(" + (high - 1) + ", 1)", 0);
            }
            if (high < 60) {
                grass.due("high(" + (high + 1) + ", 1)", high >= 59 ? 0 : ALL & ~3);
            }
        }
        Lawn few = Lawn.told("row glxbhg;row xxxxxx;row bbbbbb;row hhhhhh;row bbbbbb;row bbbbbl;")
            .due("high(0, 0)", Lawn.bits(0, 1, 5, 35));
        few.due("put(0, 1)", 0).due("high(0, 0)", Lawn.bits(1, 5, 35)).due("high(0, 1)", Lawn.bits(0));
        few.due("high(2, 1)", Lawn.bits(0)).due("high(3, 1)", Lawn.bits(1, 5, 35))
            .due("high(5, 1)", Lawn.bits(1, 5, 35)).due("high(6, 1)", 0);
    }

    static void weeksUntilAboveV() {
        Edges.promise(32, "WEEKS until some grass is above v high (0: it is). BAD; NONE: never.");
        Lawn.busy().refusedBeyond(BAD, "weeks(%)", 0, 60).questions("weeks(0)", "weeks(60)").due("weeks(60)", NONE)
            .due("weeks(0)", 0);
        for (int v = 0; v <= 60; v++) {
            // it is already, by the next week, by 1 a week the slowest, by 9 the quickest, never
            Lawn.told("high 60;").due("weeks(" + v + ")", v == 60 ? NONE : 0);
            Lawn.told("high " + v + ";sun 0 9;").due("weeks(" + v + ")", v == 60 ? NONE : 1);
            Lawn.told(Lawn.rows("bbbbbg") + "sun 5 1;high 0;").due("weeks(" + v + ")", v == 60 ? NONE : v + 1);
            Lawn.told("sun 35 9;high 0;").due("weeks(" + v + ")", v == 60 ? NONE : v / 9 + 1);
            Lawn.told(Lawn.rows("bbbbbg") + "sun 5 0;high 0;").due("weeks(" + v + ")", NONE);
            Lawn.told(Lawn.rows("bbbbbg") + "sun 5 0;high 7;").due("weeks(" + v + ")", v < 7 ? 0 : NONE);
            Lawn.told(Lawn.rows("bbbbbb") + "sun 5 9;").due("weeks(" + v + ")", NONE);
        }
        // some grass: the one that is there first
        Lawn.told(Lawn.rows("glbbbb") + "sun 0 9;sun 1 1;high 5;").due("put(0, 1)", 0).due("weeks(5)", 1)
            .due("weeks(8)", 1).due("weeks(9)", 2);
    }

    static void stripesByColumns() {
        Edges.term("STRIPES: CELLS of grass whose PICTURE is north where their column is even, south where it is odd.");
        for (int column = 0; column < 6; column++) {
            // north through the column, and south
            Lawn north = Lawn.told("socket " + (30 + column) + ";bag 200;").moves("05").due("mow(0)", 5);
            north.due("stripes(0)", column % 2 == 0 ? 5 : 0).due("stripes(1)", column % 2 == 0 ? 0 : 5)
                .due("stripes(2)", 31);
            Lawn south = Lawn.told("socket " + column + ";bag 200;").moves("25").due("mow(0)", 5);
            south.due("stripes(0)", column % 2 == 1 ? 5 : 0).due("stripes(1)", column % 2 == 1 ? 0 : 5)
                .due("stripes(2)", 31);
            // east and west through the row of that number
            Lawn east = Lawn.told("socket " + 6 * column + ";bag 200;").moves("15").due("mow(0)", 5);
            east.due("stripes(0)", 0).due("stripes(1)", 5).due("stripes(2)", 31);
            Lawn west = Lawn.told("socket " + (6 * column + 5) + ";bag 200;").moves("35").due("mow(0)", 5);
            west.due("stripes(0)", 0).due("stripes(1)", 5).due("stripes(2)", 31);
        }
    }

    static void stripesIsBadBeyond2() {
        Edges.promise(33, "STRIPES: how many CELLS are right (what 0), how many CELLS of grass have another PICTURE "
            + "(1), none (2). BAD.");
        Lawn.busy().refusedBeyond(BAD, "stripes(%)", 0, 2).questions("stripes(0)", "stripes(1)", "stripes(2)");
        new Lawn().due("stripes(0)", 0).due("stripes(1)", 0).due("stripes(2)", 36);
        Lawn.told(Lawn.rows()).due("stripes(0)", 0).due("stripes(1)", 0).due("stripes(2)", 0);
        // all that can be are right: up and down the columns, and round by the rows at their ends
        Lawn x = Lawn.told("socket 30;high 1;bag 200;").moves("0511251105112511051125");
        x.due("mow(0)", 35).due("stripes(0)", 30).due("stripes(1)", 5).due("stripes(2)", 1);
        // what is grass no more counts no more; what grows again has its PICTURE
        x.due("put(0, 3)", 0).due("put(0, 0)", 3).due("stripes(0)", 29).due("stripes(2)", 2).due("put(1, 2)", 0)
            .due("stripes(1)", 4);
        x.due("week(99)", 60).due("stripes(0)", 29).due("stripes(2)", 2);
    }

    // ---- images.

    static void imagesAre0And1() {
        Edges.promise(34, "IMAGE k (0, 1) is what all CELLS are, HEIGHT, PICTURE, and MOVES (not sun, nor what else "
            + "was told): whether there was one (1, 0). BAD.");
        Lawn.busy().refusedBeyond(BAD, "keep(%)", 0, 1);
        new Lawn().refusedBeyond(BAD, "keep(%)", 0, 1).due("keep(1)", 0).due("count(3)", 1).due("keep(1)", 1)
            .due("count(3)", 1)
            .refused(STATE, "back(0)").due("keep(0)", 0).due("count(3)", 2).due("keep(0)", 1).due("keep(1)", 1);
        // the first CELL and the last one, what they are, HEIGHT, PICTURE; 24 MOVES or none
        Lawn x = Lawn.told("socket 34;high 60;bag 200;sun 35 7;turn 3;").due("keep(0)", 0).moves("1131")
            .due("mow(0)", 2).due("clear()", 2);
        x.due("put(0, 4)", 0).moves("15253505".repeat(6)).due("keep(1)", 0);
        x.tell("sun 35 8;sun 0 1;bag 9;").due("garden()", 3).due("put(35, 2)", 0);
        Lawn first = x.twin();
        first.due("back(0)", 0).due("count(2)", 0).due("cell(0, 0)", 0).due("cell(0, 1)", 60).due("cell(35, 0)", 0)
            .due("cell(35, 1)", 60);
        first.due("cell(35, 3)", NONE).due("cell(34, 3)", NONE).due("cell(35, 2)", 8).due("cell(0, 2)", 1)
            .due("rule(3)", 9);
        first.due("rule(0)", 0).due("rule(1)", 1).due("count(3)", 2);
        x.due("back(1)", 24).due("moved(23, 0)", 0).due("moved(23, 1)", 5).due("cell(0, 0)", 4).due("cell(0, 1)", 0)
            .due("cell(35, 1)", 0);
        x.due("cell(35, 3)", 1).due("cell(34, 3)", 3).due("cell(35, 2)", 8).due("cell(0, 2)", 1).due("rule(3)", 9);
        // what changes then does not change the IMAGE; it can be had again
        x.due("week(9)", 60).due("clear()", 24).due("put(35, 3)", 0).due("back(1)", 24).due("cell(35, 3)", 1)
            .due("cell(35, 1)", 0);
    }

    static void backIsBadOrState() {
        Edges.promise(35, "CELLS, MOVES are as IMAGE k: how many MOVES. BAD; STATE: there is none, the socket would "
            + "be barred.");
        Lawn.busy().refusedBeyond(BAD, "back(%)", 0, 1);
        new Lawn().refusedBeyond(BAD, "back(%)", 0, 1).refused(STATE, "back(0)", "back(1)").due("keep(1)", 0)
            .due("back(1)", 0)
            .refused(STATE, "back(0)");
        for (int socket : new int[] {0, 35}) {
            Lawn x = Lawn.told("socket 7;").due("put(" + socket + ", 2)", 0).moves("11").due("keep(0)", 0);
            x.due("put(" + socket + ", 4)", 2).due("move(2, 5)", 2).due("keep(1)", 0).due("back(0)", 1)
                .due("count(1)", 1);
            x.tell("socket " + socket + ";turn 2;").due("garden()", 2).refused(STATE, "back(0)").due("back(1)", 2);
            x.refused(STATE, "back(0)").due("cell(" + socket + ", 0)", 4).due("keep(0)", 1).due("back(0)", 2);
            // barred beside the socket is well
            x.tell("socket 34;").due("garden()", 1).due("put(35, 2)", 0).due("keep(0)", 1).due("put(35, 3)", 2)
                .due("back(0)", 0);
        }
    }

    // ---- sheets.

    static void sheetsAre0To3OfLanes0To2() {
        Edges.term("SHEETS 0 to 3 are rows of BYTES (lane 0), SHORTS (1), INTS (2), all with a sign, with 0 to 48 "
            + "CELLS, or nothing (at first).");
        Lawn at = new Lawn().refused(-11, "lay(0, 0, 1)", "lay(3, 0, 1)").due("count(5)", NONE);
        for (int k = 0; k < 4; k++) {
            at.due("sheet(" + k + ", " + (k + 1) % 3 + ", " + (k % 2 == 0 ? 0 : 48) + ")", 1);
        }
        at.due("lay(0, 0, 1)", -12).due("lay(1, 47, 1)", 1).due("lay(1, 48, 1)", -12).due("lay(3, 47, 1)", 1)
            .due("count(5)", 0);
        // which numbers are 1 in each lane: the lowest 8, 16, 32 bits, the highest of them the sign
        long[][] ones = {{1, 257, -255, 65537, 1 + (1 << 30)}, {1, 65537, -65535, 1 + (1 << 30)}, {1}};
        long[][] others = {{127, 128, 255, -1, -128, 129, 4, 0x7f},
            {257, -255, 129, 255, 256, 32767, 32768, 65535, -1, 4},
            {257, 65537, -255, -65535, 1 + (1 << 30), Integer.MIN_VALUE, Integer.MIN_VALUE + 1, Integer.MAX_VALUE, -1,
                4}};
        for (int lane = 0; lane < 3; lane++) {
            String read = "read(3, " + lane + ", 0, 1)";
            Lawn x = new Lawn().due("sheet(3, " + lane + ", 2)", 1).due("lay(3, 1, 5)", 1);
            for (long one : ones[lane]) {
                x.due("lay(3, 0, " + one + ")", 1).due(read, 1).due("moved(0, 0)", 1).due("moved(0, 1)", 5)
                    .due("clear()", 1);
            }
            for (long other : others[lane]) {
                x.due("lay(3, 0, " + other + ")", 1).refused(-20, read);
            }
            for (long one : ones[lane]) {
                x.due("lay(3, 0, 2)", 1).due("lay(3, 1, " + one + ")", 1).due(read, 1).due("moved(0, 1)", 1)
                    .due("clear()", 1);
            }
        }
    }

    static void faultsOfTheMachine() {
        Edges.term("A FAULT is what the machine finds: 1 NULL (nothing), 2 INDEX, 3 CAST (another lane), 4 SIZE "
            + "(below 0).");
        Lawn x = new Lawn();
        x.due("read(2, 0, 0, 1)", 0).due("torn()", 1).due("lay(2, 0, 1)", -11).due("sheet(2, 0, -1)", -14)
            .due("sheet(2, 0, 0)", 1);
        x.due("read(2, 0, 0, 1)", 0).due("torn()", 2).due("lay(2, 0, 1)", -12).due("sheet(2, 1, -1)", -14);
        for (int lane = 0; lane < 3; lane++) {
            for (int other = 0; other < 3; other++) {
                x.due("sheet(2, " + lane + ", 2)", 1).due("lay(2, 1, 3)", 1)
                    .due("read(2, " + other + ", 0, 1)", lane == other ? 1 : 0);
                x.due("torn()", lane == other ? 0 : 3);
            }
        }
        // what is nothing has no lane and no CELL; of another lane no CELL is looked for
        x.due("read(1, 2, -1, 1)", 0).due("torn()", 1).due("read(2, 0, -1, 1)", 0).due("torn()", 3)
            .due("read(2, 2, -1, 1)", 0);
        x.due("torn()", 2).due("lay(1, -1, 0)", -11).due("lay(1, 48, 0)", -11);
    }

    static void sheetIsBadAbove48AndSizeBelow0() {
        Edges.promise(36, "A SHEET is a new row of CELLS 0: 1. BAD: also n above 48; -14 (SIZE): n below 0.");
        Lawn x = Lawn.busy();
        x.refusedBeyond(BAD, "sheet(%, 0, 1)", 0, 3).refusedBeyond(BAD, "sheet(0, %, 1)", 0, 2)
            .refusedBeyond(BAD, "sheet(3, %, 48)", 0, 2);
        x.refused(BAD, "sheet(0, 0, 49)", "sheet(0, 2, 50)", "sheet(0, 0, MAX)", "sheet(3, 2, 49)");
        x.refused(-14, "sheet(0, 0, -1)", "sheet(3, 2, -1)", "sheet(0, 1, -2)", "sheet(0, 0, MIN)");
        x.refused(BAD, "sheet(4, 0, -1)", "sheet(-1, 0, -1)", "sheet(0, 3, -1)", "sheet(0, -1, MIN)",
            "sheet(4, 3, 49)");
        for (int k = 0; k < 4; k++) {
            for (int lane = 0; lane < 3; lane++) {
                x.due("sheet(" + k + ", " + lane + ", 0)", 1).due("lay(" + k + ", 0, 1)", -12);
                x.due("sheet(" + k + ", " + lane + ", 48)", 1).due("lay(" + k + ", 47, 1)", 1)
                    .due("lay(" + k + ", 48, 1)", -12);
            }
        }
        // a new row: what was laid is 0 (WAY 0; 0 is no number of STEPS), others stay
        Lawn anew = new Lawn().due("sheet(0, 1, 48)", 1).due("sheet(1, 1, 2)", 1).due("lay(1, 0, 3)", 1)
            .due("lay(1, 1, 4)", 1);
        for (int i = 0; i < 48; i++) {
            anew.due("lay(0, " + i + ", 3)", 1);
        }
        anew.due("read(0, 1, 46, 1)", 1).due("moved(0, 0)", 3).due("sheet(0, 1, 48)", 1)
            .refused(-20, "read(0, 1, 46, 1)");
        for (int i = 1; i < 48; i += 2) {
            anew.refused(-20, "read(0, 1, " + (i - 1) + ", 1)").due("lay(0, " + i + ", 2)", 1);
        }
        anew.due("clear()", 1).due("read(0, 1, 0, 24)", 24).due("moved(0, 0)", 0).due("moved(23, 0)", 0)
            .due("moved(23, 1)", 2);
        anew.due("clear()", 24).due("read(1, 1, 0, 1)", 1).due("moved(0, 0)", 3).due("moved(0, 1)", 4);
    }

    static void layIsBadNullOrIndex() {
        Edges.promise(37, "CELL i of a SHEET becomes v (its lowest bits): 1. BAD: k; -10 less the FAULT: NULL, INDEX.");
        Lawn x = Lawn.busy();
        x.refusedBeyond(BAD, "lay(%, 0, 1)", 0, 3).refusedBeyond(BAD, "lay(%, -1, 1)", 0, 3)
            .refusedBeyond(BAD, "lay(%, 48, MAX)", 0, 3);
        x.refused(-11, "lay(3, 0, 1)", "lay(3, -1, 1)", "lay(3, 47, 1)", "lay(3, MIN, 1)", "lay(3, MAX, 1)");
        x.refusedBeyond(-12, "lay(0, %, 1)", 0, 5).refusedBeyond(-12, "lay(1, %, 1)", 0, 0)
            .refusedBeyond(-12, "lay(2, %, 1)", 0, 47);
        x.due("lay(0, 0, 1)", 1).due("lay(0, 5, 1)", 1).due("lay(1, 0, 1)", 1).due("lay(2, 0, MIN)", 1)
            .due("lay(2, 47, MAX)", 1);
        x.due("sheet(3, 0, 0)", 1).refused(-12, "lay(3, 0, 1)", "lay(3, -1, 1)", "lay(3, 1, 1)");
        // that CELL and no other
        Lawn row = new Lawn().due("sheet(1, 0, 6)", 1);
        for (int i = 0; i < 6; i++) {
            row.due("lay(1, " + i + ", " + (1 + i % 3) + ")", 1);
        }
        row.due("lay(1, 2, 0)", 1).due("read(1, 0, 0, 3)", 3);
        int[] dues = {1, 2, 0, 1, 2, 3};
        for (int i = 0; i < 6; i++) {
            row.due("moved(" + i / 2 + ", " + i % 2 + ")", dues[i]);
        }
    }

    /** SHEET 2, of a lane, full of MOVES: 24, WAY i by 4, STEPS 1 to 5 in turn. */
    private static Lawn sheetOf24(int lane) {
        Lawn x = new Lawn().due("sheet(2, " + lane + ", 48)", 1);
        for (int i = 0; i < 24; i++) {
            x.due("lay(2, " + 2 * i + ", " + i % 4 + ")", 1).due("lay(2, " + (2 * i + 1) + ", " + (1 + i % 5) + ")", 1);
        }
        return x;
    }

    static void readTakes0To24Moves() {
        Edges.promise(38, "n (0 to 24) MOVES (WAY, STEPS) are read of a SHEET taken as of a lane, two CELLS each "
            + "from CELL f on, behind those there are: how many came.");
        for (int lane = 0; lane < 3; lane++) {
            String read = "read(2, " + lane + ", ";
            Lawn x = sheetOf24(lane);
            x.refusedBeyond(BAD, read + "0, %)", 0, 24).due(read + "0, 0)", 0).due("count(2)", 0)
                .due(read + "0, 24)", 24);
            for (int i = 0; i < 24; i++) {
                x.due("moved(" + i + ", 0)", i % 4).due("moved(" + i + ", 1)", 1 + i % 5);
            }
            // from the last MOVE on; from the one ahead of it; from an odd CELL on: STEPS are WAYS then
            x.due("clear()", 24).due(read + "46, 1)", 1).due("moved(0, 0)", 3).due("moved(0, 1)", 4)
                .due(read + "44, 2)", 2);
            x.due("moved(1, 0)", 2).due("moved(1, 1)", 3).due("moved(2, 0)", 3).due("torn()", 0).due(read + "1, 1)", 1);
            x.due("moved(3, 0)", 1).due("moved(3, 1)", 1).due(read + "45, 1)", 1).due("moved(4, 0)", 3)
                .due("moved(4, 1)", 3);
        }
    }

    static void whatTheMachineRefusesIsTorn() {
        Edges.promise(38, "What the machine refuses: those that were whole ahead come (its FAULT is asked by torn(); "
            + "of n 0: 0, no FAULT, whatever the SHEET is).");
        for (int lane = 0; lane < 3; lane++) {
            String read = "read(2, " + lane + ", ";
            Lawn x = sheetOf24(lane);
            // the last is whole, or but its WAY is there, or nothing
            x.due(read + "46, 1)", 1).due("torn()", 0).due(read + "46, 2)", 1).due("torn()", 2).due(read + "47, 1)", 0)
                .due("torn()", 2);
            x.due(read + "48, 1)", 0).due("torn()", 2).due(read + "-1, 1)", 0).due("torn()", 2).due(read + "-2, 2)", 0)
                .due("torn()", 2);
            x.due(read + "MIN, 24)", 0).due("torn()", 2).due(read + "MAX, 24)", 0).due("torn()", 2).due("count(2)", 2);
            x.due(read + "2147483646, 2)", 0).due("torn()", 2).due("clear()", 2).due(read + "2, 24)", 23)
                .due("torn()", 2).due("count(2)", 23);
            // of none there is no FAULT
            for (String f : new String[] {"0", "47", "48", "-1", "MIN", "MAX"}) {
                x.due(read + "-1, 1)", 0).due("torn()", 2).due(read + f + ", 0)", 0).due("torn()", 0);
                x.due("read(2, " + (lane + 1) % 3 + ", " + f + ", 0)", 0).due("torn()", 0)
                    .due("read(0, 0, " + f + ", 0)", 0).due("torn()", 0);
            }
            x.due("count(2)", 23);
        }
        // a WAY that is none in a MOVE that is not whole is not looked at; nothing, and another lane, have no whole one
        Lawn half = new Lawn().due("sheet(0, 0, 3)", 1).due("lay(0, 0, 2)", 1).due("lay(0, 1, 5)", 1)
            .due("lay(0, 2, 9)", 1);
        half.due("read(0, 0, 0, 2)", 1).due("torn()", 2).due("read(0, 0, 2, 1)", 0).due("torn()", 2).due("count(2)", 1);
        half.due("read(1, 0, 0, 24)", 0).due("torn()", 1).due("read(0, 1, 0, 24)", 0).due("torn()", 3)
            .due("count(2)", 1);
        half.due("sheet(0, 0, 0)", 1).due("read(0, 0, 0, 1)", 0).due("torn()", 2).due("sheet(0, 0, 1)", 1)
            .due("read(0, 0, 0, 1)", 0);
        half.due("torn()", 2).due("sheet(0, 0, 2)", 1).due("lay(0, 1, 1)", 1).due("read(0, 0, 0, 1)", 1)
            .due("torn()", 0);
    }

    static void readRefusesAndThenNoneCame() {
        Edges.promise(38, "BAD: k, lane, n; -20 less i (0 on): MOVE i, whole, is refused by move() as BAD; FULL: "
            + "there is no room for it: then none came; the first met.");
        Lawn x = Lawn.busy();
        x.refusedBeyond(BAD, "read(%, 0, 0, 1)", 0, 3).refusedBeyond(BAD, "read(%, 0, 0, 0)", 0, 3);
        x.refusedBeyond(BAD, "read(0, %, 0, 1)", 0, 2).refusedBeyond(BAD, "read(3, %, 0, 0)", 0, 2);
        x.refusedBeyond(BAD, "read(0, 0, 0, %)", 0, 24).refusedBeyond(BAD, "read(3, 2, -1, %)", 0, 24);
        // each MOVE of 24 in turn is no MOVE: a WAY beyond 0 to 3, STEPS beyond 1 to 5
        for (int i = 0; i < 24; i++) {
            String[] none = i % 2 == 0 ? new String[] {2 * i + ", -1",
                2 * i + ", 4"} : new String[] {2 * i + 1 + ", 0", 2 * i + 1 + ", 6"};
            for (String cell : none) {
                // with two MOVES ahead there would be no room for the 23rd
                sheetOf24(2).moves(i < 22 ? "1122" : "").due("read(1, 0, 0, 1)", 0).due("lay(2, " + cell + ")", 1)
                    .refused(-20 - i, "read(2, 2, 0, 24)");
            }
        }
        for (int way = 0; way < 4; way++) {
            for (int steps = 1; steps <= 5; steps++) {
                sheetOf24(0).due("lay(2, 0, " + way + ")", 1).due("lay(2, 1, " + steps + ")", 1)
                    .due("read(2, 0, 0, 1)", 1);
            }
        }
        // room for one, for none
        Lawn room = sheetOf24(1).due("read(2, 1, 0, 23)", 23).due("read(0, 1, 0, 1)", 0).due("torn()", 1);
        room.refused(FULL, "read(2, 1, 0, 2)", "read(2, 1, 0, 24)", "read(2, 1, 44, 3)").due("read(2, 1, 0, 1)", 1)
            .due("count(2)", 24);
        room.refused(FULL, "read(2, 1, 0, 1)", "read(2, 1, 46, 1)", "read(2, 1, 46, 2)").due("read(2, 1, 0, 0)", 0);
        // the first met: what is no MOVE there, no room, no CELL
        Lawn met = sheetOf24(1).due("lay(2, 1, 6)", 1).due("lay(2, 44, 4)", 1).due("read(2, 1, 2, 21)", 21)
            .due("move(0, 1)", 22);
        met.refused(-20, "read(2, 1, 0, 24)", "read(2, 1, 44, 24)").refused(-21, "read(2, 1, 42, 3)")
            .due("move(0, 1)", 23);
        met.refused(-21, "read(2, 1, 42, 3)").refused(FULL, "read(2, 1, 2, 3)").due("move(0, 1)", 24)
            .refused(FULL, "read(2, 1, 42, 3)");
        met.refused(-20, "read(2, 1, 44, 2)").due("read(2, 1, 47, 1)", 0).due("torn()", 2).due("read(2, 0, 0, 1)", 0)
            .due("torn()", 3);
        Lawn last = sheetOf24(1).due("read(2, 1, 0, 23)", 23).due("read(2, 1, 46, 2)", 1).due("torn()", 2)
            .due("count(2)", 24);
        last.refused(FULL, "read(2, 1, 46, 2)").due("clear()", 24).due("lay(2, 47, 0)", 1)
            .refused(-20, "read(2, 1, 46, 2)");
    }

    static void tornIsOfTheLatestThatAnswered() {
        Edges.promise(39, "The FAULT of the latest read() that answered 0 or more; 0 (one that is refused leaves it).");
        Lawn x = new Lawn().due("torn()", 0).due("read(4, 0, 0, 1)", BAD).due("torn()", 0).due("sheet(1, 1, 3)", 1)
            .due("lay(1, 1, 6)", 1);
        String[] reads = {"read(0, 0, 0, 1)", "read(1, 1, 2, 1)", "read(1, 0, 0, 1)"};
        for (int fault = 1; fault <= 3; fault++) {
            x.due(reads[fault - 1], 0).due("torn()", fault).due("torn()", fault);
            x.refused(BAD, "read(4, 0, 0, 1)", "read(-1, 0, 0, 0)", "read(0, 3, 0, 1)", "read(0, 0, 0, 25)")
                .refused(-20, "read(1, 1, 0, 1)");
            x.due("read(4, 0, 0, 1)", BAD).due("read(1, 1, 0, 1)", -20).due("torn()", fault);
            // what is no read() leaves it as well
            x.due("lay(1, 3, 0)", -12).due("sheet(1, 1, -1)", -14).due("keep(0)", fault == 1 ? 0 : 1).due("back(0)", 0)
                .due("torn()", fault);
            x.due("garden()", 0).due("torn()", fault).due("read(1, 1, 0, 0)", 0).due("torn()", 0);
        }
        Lawn full = Lawn.full().due("torn()", 2).refused(FULL, "read(0, 0, 0, 1)").due("read(0, 0, 0, 1)", FULL)
            .due("torn()", 2);
        full.due("clear()", 24).due("read(0, 0, 0, 1)", 1).due("torn()", 0);
    }

    static void countIsBadBeyond6() {
        Edges.promise(40, "How many: 0 CELLS of grass, 1 barred, 2 MOVES, 3 IMAGES, 4 bytes on THE TAPE, 5 CELLS of "
            + "SHEET 0 (NONE: nothing), 6 HEIGHTS of all, summed. BAD.");
        Lawn.busy().refusedBeyond(BAD, "count(%)", 0, 6);
        Lawn.full().refusedBeyond(BAD, "count(%)", 0, 6).due("count(2)", 24).due("count(3)", 2).due("count(4)", 320)
            .due("count(5)", 6);
        int[] first = {36, 0, 0, 0, 0, NONE, 108};
        for (int what = 0; what < 7; what++) {
            new Lawn().due("count(" + what + ")", first[what]);
        }
        // no grass; all barred but the socket; the greatest HEIGHT everywhere; a SHEET without CELLS, one with 48
        String barred = "row xxxxxx;".repeat(5);
        Lawn.told(barred + "row xxxxxb;socket 35;").due("count(0)", 0).due("count(1)", 35).due("count(6)", 0);
        Lawn.told(barred + "row xxxxxl;socket 35;").due("count(0)", 1).due("count(1)", 35).due("count(6)", 3);
        Lawn.told("high 60;").due("count(6)", 2160).due("put(35, 2)", 0).due("count(6)", 2100).due("count(0)", 35)
            .due("count(1)", 1);
        Lawn.told("high 0;").due("count(6)", 0).due("count(0)", 36);
        new Lawn().due("sheet(1, 0, 7)", 1).due("count(5)", NONE).due("sheet(0, 0, 0)", 1).due("count(5)", 0)
            .due("sheet(0, 2, 48)", 1)
            .due("count(5)", 48).due("sheet(0, 1, 49)", BAD).due("count(5)", 48);
    }
}
