/** A WAY that is told, THE CORD, and promises 9 to 17: a test for each sentence with a boundary. */
public final class WayEdges {
    private static final int BAD = Edges.BAD, FULL = Edges.FULL, NONE = Edges.NONE;
    /** Round the border again and again, from CELL 0 on: 24 MOVES, 120 STEPS. */
    private static final String ROUNDS = "15253505".repeat(6);
    /** East and west in turn, from CELL 0 to CELL 17: 17 STEPS, each to another CELL. */
    private static final String SNAKE = "1521352115";
    private static final int[][] QUARTERS = {{0, 1, 2, 1}, {1, 0, 1, 2}, {2, 1, 0, 1}, {1, 2, 1, 0}};

    public static void main(String[] args) {
        Edges.run(WayEdges.class);
    }

    private static Lawn bare(String lines) {
        return Lawn.told(Lawn.rows() + lines);
    }

    // ---- a WAY that is told.

    static void movesAre24Of1To5Steps() {
        Edges.term("A WAY that is told: MOVES (24), each so many STEPS (1 to 5) to one side.");
        Lawn x = Lawn.busy();
        x.refusedBeyond(BAD, "move(0, %)", 1, 5).refusedBeyond(BAD, "move(3, %)", 1, 5);
        x.due("clear()", 7).moves(ROUNDS).due("count(2)", 24).due("moved(23, 1)", 5);
        x.refused(FULL, "move(0, 1)", "move(3, 5)", "move(0, 5)", "move(3, 1)");
        bare("").moves(ROUNDS).due("run(0, 2)", 120).due("run(0, 3)", 0).due("run(0, 6)", 0);
        for (int steps = 1; steps <= 5; steps++) {
            bare("").due("move(1, " + steps + ")", 1).due("run(0, 2)", steps).due("run(0, 6)", steps);
        }
    }

    static void itBeginsAtTheSocketLookingNorth() {
        Edges.term("It begins at the socket, looking north, at a minute.");
        for (int c = 0; c < 36; c++) {
            Lawn x = Lawn.told("dew 999;turn 3;socket " + c + ";");
            x.runs(0, 0, 0, 0, 0, 0, 0, c, 0, 0, 0).runs(999, 0, 0, 0, 0, 0, 0, c, 0, 0, 0);
        }
        int[] quarters = {0, 1, 2, 1};
        for (int way = 0; way < 4; way++) {
            Lawn x = bare("socket 14;turn 3;").moves(way + "1");
            x.due("run(0, 7)", quarters[way]).due("run(0, 0)", 3 * quarters[way] + 1);
        }
    }

    static void itTurnsByQuarters() {
        Edges.term("Ahead of a MOVE the walker turns to it (by 0, 1 or 2 quarters, each of turn minutes).");
        for (int look = 0; look < 4; look++) {
            for (int way = 0; way < 4; way++) {
                int quarters = QUARTERS[0][look] + QUARTERS[look][way];
                for (int turn = 0; turn <= 3; turn++) {
                    Lawn x = bare("socket 14;turn " + turn + ";").moves(look + "1" + way + "1");
                    x.due("run(0, 7)", quarters).due("run(0, 0)", turn * quarters + 2);
                }
            }
        }
        bare("socket 30;turn 3;").moves("010101").runs(0, 3, 0, 3, 0, 0, 0, 12, 0, 0, 0);
    }

    static void aStepTakesAMinuteOrClimbs() {
        Edges.term("A STEP takes 1 minute, climb north to a SLOPE.");
        int[] ahead = {8, 15, 20, 13};
        for (int climb = 1; climb <= 4; climb++) {
            for (int way = 0; way < 4; way++) {
                Lawn x = bare("socket 14;turn 0;climb " + climb + ";").moves(way + "1");
                for (int kind : new int[] {0, 1, 3, 4}) {
                    x.ask("put(" + ahead[way] + ", " + kind + ")");
                    x.due("run(0, 0)", kind == 1 && way == 0 ? climb : 1);
                }
                // from a SLOPE to a CELL that is none
                x.due("put(14, 1)", 3).due("run(0, 0)", 1);
            }
            Lawn x = Lawn.told("row llllll;".repeat(6) + "turn 0;high 0;socket 30;climb " + climb + ";")
                .moves("052515350505");
            x.due("run(0, 0)", 5 * climb + 5 + 5 + 5 + 5 * climb).due("run(0, 3)", 1);
        }
    }

    static void itStopsForGood() {
        Edges.term("If the next CELL is barred, it STOPS there for good (that STEP takes nothing).");
        Lawn x = Lawn.told(Lawn.rows("gggxgg")).moves("15213521");
        x.runs(0, 3, 2, 2, 1, 0, 6, 2, 1, 0, 0).due("mow(0)", 2).due("cord(2, 0)", 2).due("cord(3, 0)", BAD);
        x.due("put(3, 3)", 2).due("run(0, 3)", 0).due("run(0, 6)", 12).due("run(0, 2)", 12);
        // ahead of the first STEP of all: what it turns is turned
        bare("").moves("011521").runs(0, 0, 0, 0, 1, 0, 0, 0, 0, 0, 0);
        bare("socket 30;turn 3;").moves("2115").runs(0, 6, 0, 0, 1, 0, 0, 30, 2, 0, 0);
        // by the last STEP of all, and one less
        bare("").moves("1525").runs(0, 12, 0, 10, 0, 0, 0, 35, 2, 0, 0);
        bare("").moves("152521").runs(0, 12, 0, 10, 1, 0, 0, 35, 2, 0, 0);
        bare("socket 1;").moves("1525").runs(0, 5, 0, 4, 1, 0, 0, 5, 1, 0, 0);
    }

    static void theHeapEmptiesTheBag() {
        Edges.term("Behind its minutes it is in the CELL: on the heap the bag is emptied, if something is in it "
            + "(that takes empty minutes)");
        String row = Lawn.rows("bghhgh") + "turn 0;";
        for (int empty : new int[] {0, 1, 9}) {
            Lawn.told(row + "empty " + empty + ";").moves("15").runs(0, 5 + 2 * empty, 2, 5, 0, 2, 0, 5, 1, 0, 0);
            Lawn.told(row + "high 1;empty " + empty + ";").moves("15")
                .runs(0, 5 + 2 * empty, 2, 5, 0, 2, 0, 5, 1, 0, 0);
            // nothing is in it: no HEIGHT, no room, wet
            Lawn.told(row + "high 0;empty " + empty + ";").moves("15").runs(0, 5, 0, 5, 0, 0, 0, 5, 1, 0, 0);
            Lawn.told(row + "bag 2;empty " + empty + ";").moves("15").runs(0, 5, 0, 5, 0, 0, 0, 5, 1, 0, 2);
            Lawn.told(row + "dew 5;empty " + empty + ";").moves("15").runs(0, 5, 0, 5, 0, 0, 0, 5, 1, 2, 0);
        }
        // behind the heap there is room again; the bag is not emptied where it begins
        Lawn.told(row + "bag 3;").moves("15").runs(0, 9, 2, 5, 0, 2, 0, 5, 1, 0, 0);
        Lawn.told(row + "bag 3;").moves("14").runs(0, 6, 2, 4, 0, 1, 3, 4, 1, 0, 0);
        Lawn.told(Lawn.rows("hgbbbb") + "turn 0;").moves("11").runs(0, 1, 1, 1, 0, 0, 3, 1, 1, 0, 0);
        Lawn.told(Lawn.rows("hgbbbb") + "turn 0;").moves("1131").runs(0, 4, 1, 2, 0, 1, 0, 0, 3, 0, 0);
    }

    static void grassWithAHeightAbove0() {
        Edges.term("on grass with a HEIGHT above 0");
        for (String lines : new String[] {"high 0;", "high 0;dew 999;", "high 0;bag 1;"}) {
            Lawn x = Lawn.told(Lawn.rows("bglgbb") + "turn 0;" + lines).moves("15");
            x.runs(0, 5, 0, 5, 0, 0, 0, 5, 1, 0, 0).due("mow(0)", 0).due("cell(1, 3)", NONE);
        }
        Lawn x = Lawn.told(Lawn.rows("bglgbb") + "turn 0;high 1;").moves("15");
        x.runs(0, 5, 3, 5, 0, 0, 3, 5, 1, 0, 0).due("mow(0)", 3).due("cell(1, 3)", 1).due("mow(0)", 0);
        Lawn.told(Lawn.rows("bglgbb") + "turn 0;high 1;dew 999;").moves("15").runs(0, 5, 0, 5, 0, 0, 0, 5, 1, 3, 0);
        // what is bare or a heap has none
        Lawn.told(Lawn.rows("bbhbhb") + "turn 0;dew 999;").moves("15").runs(0, 5, 0, 5, 0, 0, 0, 5, 1, 0, 0);
    }

    static void wetIfTheMinuteIsLessThanDew() {
        Edges.term("WET, if the minute is less than dew");
        String row = Lawn.rows("bgbbbb", "lbbbbb");
        int[][] dews = {{2, 0}, {10, 8}, {999, 997}};
        for (int[] d : dews) {
            Lawn x = Lawn.told(row + "turn 0;dew " + d[0] + ";").moves("11");
            x.due("run(" + d[1] + ", 8)", 1).due("run(" + d[1] + ", 1)", 0);
            x.due("run(" + (d[1] + 1) + ", 8)", 0).due("run(" + (d[1] + 1) + ", 1)", 1);
            x.due("run(0, 8)", 1).due("run(999, 1)", 1);
        }
        for (int dew : new int[] {0, 1}) {
            Lawn.told(row + "turn 0;dew " + dew + ";").moves("11").due("run(0, 8)", 0).due("run(0, 1)", 1);
        }
        // the turn's minutes and the climb's have gone by then
        Lawn x = Lawn.told(row + "turn 3;dew 10;").moves("11");
        x.due("run(5, 8)", 1).due("run(6, 8)", 0);
        x = Lawn.told(row + "climb 4;socket 12;dew 10;").moves("01");
        x.due("run(5, 8)", 1).due("run(6, 8)", 0);
        // the first two of five are wet; what is wet keeps its HEIGHT and has no PICTURE
        x = Lawn.told(Lawn.rows("bggggg") + "turn 0;dew 3;").moves("15");
        x.runs(0, 5, 3, 5, 0, 0, 9, 5, 1, 2, 0).due("mow(0)", 3).due("cell(2, 1)", 3).due("cell(2, 3)", NONE);
        x.due("cell(3, 1)", 0).due("cell(3, 3)", 1);
    }

    static void cutIfTheBagHasRoom() {
        Edges.term("else, if the bag has room for the HEIGHT, it is CUT: the HEIGHT is in the bag, 0 there, the "
            + "PICTURE there is that WAY; else it is LEFT.");
        int[][] bags = {
            // high, bag, CUT, in the bag: five CELLS
            {3, 2, 0, 0}, {3, 3, 1, 3}, {3, 5, 1, 3}, {3, 6, 2, 6}, {3, 8, 2, 6}, {3, 9, 3, 9}, {3, 14, 4, 12},
                {3, 15, 5, 15},
            {1, 1, 1, 1}, {1, 4, 4, 4}, {1, 5, 5, 5}, {2, 1, 0, 0}, {60, 59, 0, 0}, {60, 60, 1, 60}, {60, 179, 2, 120},
            {60, 180, 3, 180}, {60, 200, 3, 180}, {40, 199, 4, 160}, {40, 200, 5, 200}};
        for (int[] b : bags) {
            Lawn x = Lawn.told(Lawn.rows("bggggg") + "turn 0;high " + b[0] + ";bag " + b[1] + ";").moves("15");
            x.runs(0, 5, b[2], 5, 0, 0, b[3], 5, 1, 0, 5 - b[2]).due("mow(0)", b[2]);
            for (int c = 1; c < 6; c++) {
                x.due("cell(" + c + ", 1)", c <= b[2] ? 0 : b[0]).due("cell(" + c + ", 3)", c <= b[2] ? 1 : NONE);
            }
        }
        // one too high is LEFT, a lower one behind it is CUT
        Lawn x = Lawn.told(Lawn.rows("bgggbb") + "turn 0;bag 8;sun 1 2;sun 2 9;sun 3 0;").moves("15");
        x.due("week(1)", 12).runs(0, 5, 2, 5, 0, 0, 8, 5, 1, 0, 1).due("mow(0)", 2);
        x.due("cell(2, 1)", 12).due("cell(2, 3)", NONE).due("cell(3, 1)", 0).due("cell(3, 3)", 1);
        // what is wet or LEFT keeps the PICTURE that it had; what is cut again has the new one
        for (int bag = 5; bag <= 6; bag++) {
            x = Lawn.told(Lawn.rows("bgbbbb") + "turn 0;dew 100;bag " + bag + ";").moves("11").due("mow(500)", 1);
            x.due("week(2)", 6).due("cell(1, 3)", 1).due("clear()", 1).moves("211101");
            x.due("mow(0)", 0).due("cell(1, 3)", 1).due("cell(1, 1)", 6);
            x.due("mow(500)", bag - 5).due("cell(1, 3)", bag == 5 ? 1 : 0).due("cell(1, 1)", bag == 5 ? 6 : 0);
        }
        for (int way = 0; way < 4; way++) {
            x = Lawn.told("socket 14;").moves(way + "1").due("mow(0)", 1);
            x.due("cell(" + (14 + new int[] {-6, 1, 6, -1}[way]) + ", 3)", way);
        }
    }

    static void theSocketIsNotCutAtTheBeginning() {
        Edges.term("The socket's CELL is not cut at the beginning.");
        for (String lines : new String[] {"", "dew 999;", "bag 1;"}) {
            Lawn x = Lawn.told(Lawn.rows("ggbbbb") + "turn 0;" + lines);
            x.runs(999, 0, 0, 0, 0, 0, 0, 0, 0, 0, 0).due("mow(999)", 0).due("cell(0, 1)", 3).due("cell(0, 3)", NONE);
        }
        Lawn x = Lawn.told(Lawn.rows("ggbbbb") + "turn 0;").moves("11");
        x.due("run(0, 1)", 1).due("mow(0)", 1).due("cell(0, 1)", 3);
        // when it comes back it is cut as any other
        x = Lawn.told(Lawn.rows("ggbbbb") + "turn 0;").moves("1131");
        x.due("run(0, 1)", 2).due("mow(0)", 2).due("cell(0, 1)", 0).due("cell(0, 3)", 3);
    }

    // ---- the cord.

    static void aStepBackTakesTheCordIn() {
        Edges.term("THE CORD: CELLS from the socket's to that in which the walker is, as it was drawn out; a STEP "
            + "back to the CELL ahead of the last one takes the last one in.");
        Lawn x = bare("").moves("13331111");
        int[] lengths = {0, 1, 2, 3, 2, 1, 0, 1, 2};
        long[] lies = {1, 3, 7, 15, 7, 3, 1, 3, 7};
        for (int s = 0; s <= 8; s++) {
            x.due("cord(" + s + ", 0)", lengths[s]).due("cord(" + s + ", 1)", lies[s]).due("cord(" + s + ", 2)", 0);
            x.due("cord(" + s + ", 3)", Math.min(s, 3));
        }
        x.refused(BAD, "cord(9, 0)").due("trips(0)", NONE);
        // round a corner; it is the CELL ahead of the last one, not the one ahead of that
        x = bare("").moves("11210131");
        x.due("cord(2, 0)", 2).due("cord(3, 0)", 1).due("cord(3, 1)", 3).due("cord(4, 0)", 0).due("cord(4, 1)", 1);
        x = bare("").moves("112131").due("cord(3, 0)", 3).due("cord(3, 1)", Lawn.bits(0, 1, 6, 7)).due("cord(3, 2)", 0);
    }

    static void aStepWhereItLiesCrosses() {
        Edges.term("A STEP to a CELL where it lies, but that one, CROSSES it (it lies there again then); its length "
            + "is its CELLS less 1; longer than cord: it is too SHORT.");
        // a square, then its first STEP again, and a third time round
        Lawn x = bare("cord 4;").moves("1121310111213101");
        for (int s = 0; s <= 8; s++) {
            x.due("cord(" + s + ", 0)", s).due("cord(" + s + ", 2)", Math.max(0, s - 3)).due("cord(" + s + ", 3)", s);
            x.due("cord(" + s + ", 1)", new long[] {1, 3, 131, 195, 195, 195, 195, 195, 195}[s]);
        }
        x.due("trips(0)", 4).due("trips(1)", 5);
        // behind the square back: what lies there again is taken in, and lies there still
        x = bare("cord 4;").moves("1121310121110131");
        int[] lengths = {0, 1, 2, 3, 4, 3, 2, 1, 0};
        for (int s = 0; s <= 8; s++) {
            x.due("cord(" + s + ", 0)", lengths[s]).due("cord(" + s + ", 2)", s < 4 ? 0 : 1);
            x.due("cord(" + s + ", 1)", new long[] {1, 3, 131, 195, 195, 195, 131, 3, 1}[s]);
        }
        x.due("trips(0)", 4).due("trips(1)", NONE);
        // as long as it is: not too short; longer by one: too short
        for (int cord = 1; cord <= 5; cord++) {
            bare("cord " + cord + ";").moves("1" + cord).due("trips(1)", NONE).due("move(2, 1)", 2)
                .due("trips(1)", cord + 1);
        }
        bare("cord 99;").moves(ROUNDS.substring(0, 38) + "04").due("cord(99, 0)", 99).due("trips(1)", NONE);
        bare("cord 99;").moves(ROUNDS.substring(0, 38) + "05").due("cord(100, 0)", 100).due("trips(1)", 100);
    }

    static void neitherStopsTheWalker() {
        Edges.term("(Neither stops the walker.)");
        Lawn x = bare("cord 1;").moves(ROUNDS);
        x.due("trips(0)", 20).due("trips(1)", 2).due("run(0, 2)", 120).due("run(0, 3)", 0).due("cord(120, 0)", 120);
        Lawn.told("cord 1;bag 200;").moves("1525").due("run(0, 1)", 10).due("mow(0)", 10);
    }

    // ---- promises 9 to 17.

    static void moveIsBadOrFull() {
        Edges.promise(9, "A MOVE more: how many there are. BAD; FULL.");
        Lawn x = Lawn.busy();
        x.refusedBeyond(BAD, "move(%, 1)", 0, 3).refusedBeyond(BAD, "move(%, 5)", 0, 3);
        x.refusedBeyond(BAD, "move(0, %)", 1, 5).refusedBeyond(BAD, "move(3, %)", 1, 5);
        x.due("clear()", 7);
        for (int i = 0; i < 24; i++) {
            x.due("move(" + (i + 3) % 4 + ", " + (1 + (i + 4) % 5) + ")", i + 1);
        }
        x.refused(FULL, "move(0, 1)", "move(3, 5)").refused(BAD, "move(4, 1)", "move(0, 0)");
        for (int i = 0; i < 24; i++) {
            x.due("moved(" + i + ", 0)", (i + 3) % 4).due("moved(" + i + ", 1)", 1 + (i + 4) % 5);
        }
        x.due("clear()", 24).due("move(3, 5)", 1);
    }

    static void clearAnswersHowManyThereWere() {
        Edges.promise(10, "All MOVES go: how many there were.");
        Lawn x = new Lawn();
        x.due("clear()", 0).due("move(1, 1)", 1).due("clear()", 1).due("clear()", 0).due("count(2)", 0);
        Lawn full = Lawn.full();
        full.due("clear()", 24).due("count(2)", 0).refused(BAD, "moved(0, 0)", "cord(1, 0)").due("run(0, 6)", 7);
        full.due("back(0)", 3).due("clear()", 3).due("cell(6, 3)", 3).due("count(4)", 320).due("torn()", 2);
    }

    static void movedIsBadBeyondTheLast() {
        Edges.promise(11, "MOVE i: 0 WAY, 1 STEPS. BAD.");
        new Lawn().refused(BAD, "moved(0, 0)", "moved(0, 1)", "moved(-1, 0)", "moved(MAX, 1)");
        Lawn x = Lawn.busy();
        x.due("moved(0, 0)", 3).due("moved(0, 1)", 1).due("moved(6, 0)", 3).due("moved(6, 1)", 5);
        x.refusedBeyond(BAD, "moved(%, 0)", 0, 6).refusedBeyond(BAD, "moved(%, 1)", 0, 6);
        x.refusedBeyond(BAD, "moved(0, %)", 0, 1).refusedBeyond(BAD, "moved(6, %)", 0, 1);
        Lawn full = Lawn.full();
        full.due("moved(23, 0)", 3).due("moved(23, 1)", 4).refusedBeyond(BAD, "moved(%, 0)", 0, 23);
        full.due("clear()", 24).refused(BAD, "moved(0, 0)", "moved(23, 0)");
    }

    static void runIsBadBeyond999And9() {
        Edges.promise(12, "What the WAY would come to from a minute (0 to 999) on");
        Lawn x = Lawn.busy();
        x.questions("run(0, 0)", "run(999, 9)", "run(0, 9)", "run(999, 0)");
        for (int what = 0; what < 10; what++) {
            x.refusedBeyond(BAD, "run(%, " + what + ")", 0, 999);
        }
        x.refusedBeyond(BAD, "run(0, %)", 0, 9).refusedBeyond(BAD, "run(999, %)", 0, 9);
        // each minute of them is the first one's, behind all dew as ahead of it
        Lawn.told("dew 999;turn 0;bag 200;").moves("15").runs(999, 5, 5, 5, 0, 0, 15, 5, 1, 0, 0)
            .runs(0, 5, 0, 5, 0, 0, 0, 5, 1, 5, 0);
    }

    static void runAnswersTenNumbers() {
        Edges.promise(12, "0 minutes that it takes, 1 CELLS CUT, 2 STEPS that went, 3 whether it STOPS (1, 0), 4 how "
            + "often the bag was emptied, 5 what is in it at the end, 6 the CELL at the end, 7 quarters turned, 8 "
            + "times it was WET, 9 LEFT. BAD.");
        Lawn x = Lawn.busy().refusedBeyond(BAD, "run(0, %)", 0, 9).refusedBeyond(BAD, "run(500, %)", 0, 9);
        x.refused(BAD, "run(-1, 10)", "run(1000, -1)");
        // minutes 3 wet, 4 CUT, 5 the heap and 5 more, 11 CUT, 12 LEFT, 15 LEFT, 16 bare, 18 turned and STOPS
        String rows = Lawn.rows("bgghgg", "bbbbbg") + "turn 2;bag 5;empty 5;dew 4;";
        Lawn.told(rows).moves("152211").runs(0, 18, 2, 7, 1, 1, 3, 17, 3, 1, 2);
        Lawn.told(rows).moves("152235").runs(0, 23, 2, 12, 0, 1, 3, 12, 3, 1, 2);
    }

    static void mowIsBadBeyond999() {
        Edges.promise(13, "It goes so from a minute on: CELLS CUT. BAD.");
        Lawn x = Lawn.busy().refusedBeyond(BAD, "mow(%)", 0, 999);
        Lawn dewy = Lawn.told("dew 999;turn 0;bag 200;").moves("15");
        dewy.due("mow(0)", 0).due("count(6)", 108).due("mow(993)", 0).due("mow(994)", 1).due("cell(5, 3)", 1)
            .due("cell(4, 3)", NONE);
        dewy.due("mow(999)", 4).due("mow(999)", 0).due("count(6)", 93).due("count(2)", 1).due("stripes(2)", 31);
        // it begins anew each time: at the socket, with nothing in the bag
        Lawn small = Lawn.told("turn 0;bag 3;").moves("15");
        small.due("mow(0)", 1).due("mow(0)", 1).due("mow(0)", 1).due("cell(3, 1)", 0).due("cell(4, 1)", 3)
            .due("run(0, 6)", 5);
    }

    static void cordIsBadBeyondWhatGoes() {
        Edges.promise(14, "BAD: also more STEPS than go.");
        for (int what = 0; what < 4; what++) {
            new Lawn().due("cord(0, " + what + ")", what == 1 ? 1 : 0)
                .refusedBeyond(BAD, "cord(%, " + what + ")", 0, 0);
            Lawn stopped = Lawn.told(Lawn.rows("bbbxbb")).moves("1521");
            stopped.due("cord(2, " + what + ")", new int[] {2, 7, 0, 2}[what])
                .refusedBeyond(BAD, "cord(%, " + what + ")", 0, 2);
        }
        Lawn x = bare("").moves(ROUNDS);
        x.due("cord(120, 0)", 120).due("cord(120, 2)", 101).due("cord(120, 3)", 120)
            .refusedBeyond(BAD, "cord(%, 0)", 0, 120);
        x.refusedBeyond(BAD, "cord(0, %)", 0, 3).refusedBeyond(BAD, "cord(120, %)", 0, 3)
            .refusedBeyond(BAD, "cord(121, %)", 0, 3);
    }

    static void cordIsOfTheFirstStepsAlone() {
        Edges.promise(14, "THE CORD behind s STEPS of the WAY (0 on): its length (what 0), CELLS where it lies, bits "
            + "(1), how often it CROSSED (2), the longest it was (3).");
        Lawn x = Lawn.busy().questions("cord(0, 0)", "cord(0, 3)", "cord(3, 1)", "cord(3, 2)");
        // out five, in two, round by 9, 10, 11 to 5 and 4, where it lies no more, and to 3
        x = bare("").moves("153221120132");
        x.due("cord(0, 0)", 0).due("cord(0, 1)", 1).due("cord(0, 2)", 0).due("cord(0, 3)", 0);
        x.due("cord(5, 3)", 5).due("cord(7, 0)", 3).due("cord(7, 3)", 5).due("cord(7, 1)", 15)
            .due("cord(8, 1)", 15 + (1L << 9));
        x.due("cord(10, 0)", 6).due("cord(11, 1)", Lawn.bits(0, 1, 2, 3, 9, 10, 11, 5)).due("cord(12, 2)", 0);
        x.due("cord(13, 2)", 1).due("cord(13, 0)", 9).due("cord(13, 3)", 9).due("trips(0)", 13);
        x.due("cord(12, 2)", 0).due("cord(7, 3)", 5).due("cord(2, 3)", 2).due("cord(0, 3)", 0).due("cord(0, 1)", 1);
        Lawn corners = bare("socket 35;").moves("0535")
            .due("cord(10, 1)", Lawn.bits(35, 29, 23, 17, 11, 5, 4, 3, 2, 1, 0));
        corners.due("cord(10, 0)", 10);
    }

    static void tripsIsBadOrNone() {
        Edges.promise(15, "The first STEP (1 on) by which it CROSSES the cord (what 0), by which the cord is too "
            + "SHORT (1). BAD; NONE.");
        Lawn x = Lawn.busy().refusedBeyond(BAD, "trips(%)", 0, 1);
        new Lawn().refused(NONE, "trips(0)", "trips(1)").refusedBeyond(BAD, "trips(%)", 0, 1);
        // round the border: the 20th STEP comes to the socket; the 21st is longer than 20
        bare("").moves("15253504").due("trips(0)", NONE).due("move(0, 1)", 5).due("trips(0)", 20).due("trips(1)", NONE);
        bare("").moves("1525350511").due("trips(0)", 20).due("trips(1)", 21);
        // the first STEP of all is too much for none, the second for a cord of 1
        bare("cord 1;").moves("11").due("trips(1)", NONE).due("move(1, 1)", 2).due("trips(1)", 2);
        // STEPS that do not go neither cross nor draw it out
        Lawn.told(Lawn.rows("bbbbbb", "xbbbbb") + "cord 3;").moves("1121310111").refused(NONE, "trips(0)", "trips(1)");
        // what was asked of other MOVES is forgotten
        Lawn other = bare("cord 3;").moves("1121310115").due("trips(0)", 4).due("trips(1)", 4).due("clear()", 5);
        other.refused(NONE, "trips(0)", "trips(1)").due("trips(0)", NONE).due("trips(1)", NONE).moves("15")
            .due("trips(0)", NONE)
            .due("trips(1)", 4);
        // to be first again, when it has been longer: the first STEP of all such
        bare("cord 1;").moves("123212").due("trips(1)", 2).due("cord(4, 0)", 0);
    }

    static void beginIsTheFirstDryMinute() {
        Edges.promise(16, "The first minute (0 to 999) from which the WAY finds nothing WET. NONE.");
        Lawn.busy().questions("begin()");
        // none is met: no MOVES, no grass, no HEIGHT
        Lawn.told("dew 999;").due("begin()", 0);
        bare("dew 999;").moves("15").due("begin()", 0);
        Lawn.told("dew 999;high 0;").moves("15").due("begin()", 0);
        int[][] dews = {{0, 0}, {1, 0}, {2, 1}, {3, 2}, {500, 499}, {998, 997}, {999, 998}};
        for (int[] d : dews) {
            Lawn x = Lawn.told("turn 0;dew " + d[0] + ";").moves("15").due("begin()", d[1])
                .due("run(" + d[1] + ", 8)", 0);
            if (d[1] > 0) {
                Edges.due("run, a minute ahead of begin()", x.ask("run(" + (d[1] - 1) + ", 8)"), 1);
            }
        }
        // the minutes ahead of the first grass count: turns, CELLS without grass
        Lawn.told("turn 3;dew 4;").moves("15").due("begin()", 0);
        Lawn.told("turn 3;dew 5;").moves("15").due("begin()", 1);
        Lawn.told(Lawn.rows("bbbbbg") + "turn 0;dew 5;").moves("15").due("begin()", 0);
        Lawn.told(Lawn.rows("bbbbbg") + "turn 0;dew 6;").moves("15").due("begin()", 1);
        // grass that the bag has no room for can be wet, too
        Lawn.told("turn 0;dew 9;bag 1;").moves("15").due("begin()", 8);
    }

    static void needIsAtLeast1AtMost999() {
        Edges.promise(17, "The least bag (1 to 999) with which the WAY from a minute on LEAVES nothing. BAD; NONE.");
        Lawn.busy().refusedBeyond(BAD, "need(%)", 0, 999).questions("need(0)", "need(999)");
        // nothing is cut: the least bag of all
        Lawn.told("").due("need(0)", 1).due("need(999)", 1);
        Lawn.told("high 0;").moves("15").due("need(0)", 1);
        Lawn.told("dew 999;").moves("15").due("need(0)", 1).due("need(999)", 15).due("need(0)", 1);
        Lawn.told("high 1;").moves("11").due("need(0)", 1);
        Lawn.told("high 1;").moves("12").due("need(0)", 2);
        // 16 CELLS of 60 and the last of 39 or 40
        for (int high = 38; high <= 40; high++) {
            Lawn x = Lawn.told("sun 17 0;high " + high + ";").moves(SNAKE).due("week(99)", 60).due("cell(17, 1)", high);
            int need = high <= 39 ? 960 + high : NONE;
            x.due("need(0)", need).due("need(999)", need).questions("need(0)");
        }
        // with it nothing is left, with one less something is; the heap makes room
        for (int high : new int[] {1, 3, 40}) {
            for (String row : new String[] {"bggggg", "bghggb", "bgghgg", "bghghg"}) {
                Lawn x = Lawn.told(Lawn.rows(row) + "turn 0;high " + high + ";").moves("15");
                int need = (int) x.ask("need(0)");
                int most = row.equals("bghghg") ? 1 : row.equals("bggggg") ? 5 : 2;
                Edges.due("need(0) of " + row, need, most * high);
                Lawn.told(Lawn.rows(row) + "bag " + need + ";high " + high + ";").moves("15").due("run(0, 9)", 0);
                if (need > 1) {
                    Lawn less = Lawn.told(Lawn.rows(row) + "bag " + (need - 1) + ";high " + high + ";").moves("15");
                    Edges.due("run, a bag less than need", less.ask("run(0, 9)") > 0 ? 1 : 0, 1);
                }
            }
        }
    }
}
