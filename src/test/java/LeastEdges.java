/** LEAST, where things are, and promises 18 to 24: a test for each sentence with a boundary. */
public final class LeastEdges {
    private static final int BAD = Edges.BAD, STATE = Edges.STATE, FULL = Edges.FULL, NONE = Edges.NONE;
    /** Gardens whose LEAST has so many MOVES, found by trying. */
    private static final String MOVES_24 = "row bxxgbb;row xgbxxb;row gxbbbb;row bbbxbx;row xbxgbb;row gbgxxg;turn "
        + "3;socket 11;";
    private static final String MOVES_25 = "row bbbbxg;row gxbbbb;row xgbbxx;row xxxbbb;row bbbbxb;row gxgxgb;turn "
        + "0;socket 22;";
    /** Gardens whose LEAST has so many STEPS. */
    private static final String STEPS_48 = "row bgxbbb;row bxgbxg;row bbbblx;row xbxbxg;row bbxbxb;row gxlbbb;turn "
        + "3;climb 4;socket 27;";
    private static final String STEPS_40 = "row gbgxgb;row xbxgxb;row xbbbbb;row gxxbxb;row bbxbxg;row bbbbgx;turn "
        + "1;socket 27;";

    public static void main(String[] args) {
        Edges.run(LeastEdges.class);
    }

    /** Bare but for the rows that are given; with MOVES, an IMAGE and a text on the tape. */
    private static Lawn garden(String lines, String... rows) {
        Lawn x = Lawn.told(Lawn.rows(rows) + lines).moves("1522").due("keep(1)", 0);
        return x.tell("turn 3;");
    }

    /** LEAST: its minutes, and the WAYS of its STEPS as figures. */
    private static void least(Lawn x, int minutes, String ways) {
        x.due("least(0)", minutes).due("least(1)", ways.length());
        for (int s = 0; s < ways.length(); s++) {
            x.due("least(" + (10 + s) + ")", ways.charAt(s) - '0');
        }
        x.due("least(" + (10 + ways.length()) + ")", BAD);
    }

    // ---- LEAST.

    static void leastHasBeenInAllGrass() {
        Edges.term("LEAST: a row of STEPS from the socket on, looking north, without bag, dew, cord, that has been "
            + "in all CELLS of grass (the socket's too, at the beginning) in the fewest minutes (turns, climbs "
            + "counted).");
        // the socket's CELL has been come to at the beginning
        least(garden("", "gbbbbb"), 0, "");
        least(garden("socket 35;", "bbbbbb", "bbbbbb", "bbbbbb", "bbbbbb", "bbbbbb", "bbbbbl"), 0, "");
        least(garden("", "ggbbbb"), 2, "1");
        least(garden("", "bgbbbb"), 2, "1");
        // no bag, no dew, no cord, no heap's minutes, whatever the HEIGHT is
        for (String lines : new String[] {"", "bag 1;", "dew 999;", "cord 1;", "high 0;", "high 60;", "empty 9;"}) {
            least(garden(lines, "bghgbb"), 4, "111");
        }
        // turns, from looking north on
        for (int turn = 0; turn <= 3; turn++) {
            least(garden("turn " + turn + ";", "bbbbbg"), 5 + turn, "11111");
            least(garden("turn " + turn + ";", "bbbbbb", "bbbbbg"), 6 + 2 * turn, "111112");
            least(garden("socket 6;turn " + turn + ";", "gbbbbb"), 1, "0");
            least(garden("turn " + turn + ";", "bbbbbb", "gbbbbb"), 1 + 2 * turn, "2");
            garden("turn " + turn + ";", "bbbbbb", "bbbbbg").due("least(2)", 2).due("least(0)", 6 + 2 * turn);
        }
        // climbs: straight on, or round where that is less
        for (int climb = 1; climb <= 4; climb++) {
            least(garden("socket 6;turn 0;climb " + climb + ";", "lbbbbb"), Math.min(climb, 3),
                climb <= 3 ? "0" : "103");
            least(garden("socket 6;turn 3;climb " + climb + ";", "lbbbbb"), climb, "0");
            least(garden("turn 0;climb " + climb + ";", "bbbbbb", "lbbbbb"), 1, "2");
        }
    }

    static void ofSeveralTheFirstByWays() {
        Edges.term("Of several the first by WAYS of their STEPS.");
        String[][] two = {{"7", "03"}, {"9", "01"}, {"21", "12"}, {"19", "23"}, {"8 20", "022"}, {"13 15", "133"},
            {"13 20", "203"}};
        for (String[] t : two) {
            Lawn x = Lawn.told(Lawn.rows() + "socket 14;turn 0;");
            for (String c : t[0].split(" ")) {
                x.due("put(" + c + ", 0)", 3);
            }
            least(x, t[1].length(), t[1]);
        }
        // straight on and round take 3 minutes: north is the first
        least(garden("socket 6;turn 0;climb 3;", "lbbbbb"), 3, "0");
        // where a turn takes minutes they are not several
        least(garden("socket 14;turn 1;", "bbbbbb", "bgbbbb"), 3, "03");
        least(garden("socket 14;turn 1;", "bbbbbb", "bbbbbb", "bbbbbb", "bbbgbb"), 4, "12");
    }

    // ---- promises 18 to 21.

    static void leastIsBadStateOrNone() {
        Edges.promise(18, "BAD: also no such STEP; STATE: more than 7 CELLS of grass; NONE: some can not be reached.");
        Lawn x = garden("", "bbgbbb").due("least(0)", 3).due("least(11)", 1);
        x.refused(BAD, "least(MIN)", "least(-1)", "least(3)", "least(9)", "least(12)", "least(13)", "least(MAX)");
        x.questions("least(0)", "least(1)", "least(2)", "least(10)", "least(11)");
        Lawn none = garden("", "bbbbbb").due("least(0)", 0).due("least(1)", 0).due("least(2)", 0);
        none.refused(BAD, "least(10)", "least(11)", "least(9)");
        Lawn far = Lawn.told(STEPS_40).due("least(1)", 40);
        far.refused(BAD, "least(50)").due("least(49)", far.twin().ask("least(49)"));
        far = Lawn.told(STEPS_48).due("least(1)", 48);
        far.questions("least(57)").refused(BAD, "least(58)", "least(59)", "least(261)", "least(262)", "least(MAX)");
        // of 7 CELLS there is one, of 8 none; a SLOPE and what is cut are grass
        Lawn seven = garden("", "glgggg", "gbbbbb").due("count(0)", 7).due("least(0)", 12).due("least(10)", 2);
        seven.due("put(35, 1)", 3).due("count(0)", 8).refused(STATE, "least(0)", "least(1)", "least(2)", "least(10)");
        seven.refused(BAD, "least(3)", "least(9)", "least(-1)", "least(MIN)");
        seven.due("put(0, 3)", 0).due("count(0)", 7).questions("least(0)").due("put(35, 0)", 1).questions("least(0)");
        new Lawn().refused(STATE, "least(0)", "least(1)", "least(2)");
        Lawn shut = garden("", "bxgbbb", "xbbbbb");
        shut.refused(NONE, "least(0)", "least(1)", "least(2)").refused(BAD, "least(3)", "least(9)", "least(-1)");
        shut.due("put(2, 3)", 0).due("put(0, 0)", 3).due("least(0)", 0);
        // one of seven that can not be reached is enough
        garden("", "bggggg", "bbbbbg", "bbbbbb", "bbbbbb", "bbbbbx", "bbbbxg").refused(NONE, "least(0)", "least(2)");
    }

    static void leastAnswers() {
        Edges.promise(18, "LEAST: minutes (what 0), STEPS (1), quarters turned (2); 10 and s: the WAY of STEP s (0 "
            + "on).");
        Lawn x = garden("turn 3;", "bbbbbb", "bbbbbg");
        x.due("least(0)", 12).due("least(1)", 6).due("least(2)", 2).due("least(10)", 1).due("least(14)", 1)
            .due("least(15)", 2);
        // it is of the garden as it is now, nothing is left of what it was before
        Lawn now = garden("turn 3;", "bbbbbb", "bbbbbg").due("least(2)", 2).due("put(11, 3)", 0).due("put(1, 0)", 3);
        least(now, 4, "1");
        now.due("least(2)", 1).due("put(1, 3)", 0);
        least(now, 0, "");
        now.due("least(2)", 0).due("put(0, 1)", 3);
        least(now, 0, "");
        now.due("least(2)", 0).due("put(6, 0)", 3).due("least(2)", 2).due("put(12, 1)", 3).due("least(2)", 2);
        least(now, 8, "22");
        x.due("put(11, 3)", 0).due("put(1, 0)", 3).due("least(0)", 4).due("least(1)", 1).due("put(6, 0)", 3)
            .due("least(0)", 12);
        x.due("back(1)", 2).due("least(0)", 12).due("least(1)", 6);
        x.tell(Lawn.rows("bgbbbb")).due("garden()", 6).due("least(0)", 2);
    }

    static void treeIsBadStateOrNone() {
        Edges.promise(19, "BAD: also one that is not; STATE, NONE (as it is) likewise.");
        Lawn x = garden("socket 6;", "xgblhb", "bbbbbb", "bbbbbb", "bbbbbb", "bbbbbb", "bbbbbx");
        x.questions("tree(0)", "tree(35)").due("least(0)", 7).due("tree(0)", 2).due("tree(35)", 0);
        x.refusedBeyond(BAD, "tree(%)", 0, 35)
            .refused(BAD, "tree(1)", "tree(2)", "tree(3)", "tree(4)", "tree(6)", "tree(34)");
        // of 7 CELLS, of 8
        Lawn seven = garden("", "bggggg", "xxbbbb", "gbbbbb", "gbbbbx").due("count(0)", 7);
        seven.due("least(0)", 17).due("tree(6)", 1).questions("tree(6)", "tree(7)", "tree(23)");
        seven.due("put(34, 0)", 3).refused(STATE, "tree(6)", "tree(7)", "tree(23)")
            .refused(BAD, "tree(0)", "tree(1)", "tree(36)");
        // as it is some can not be reached, though they could be then
        Lawn shut = garden("", "bxgbbb", "xbbbbb");
        shut.refused(NONE, "tree(1)", "tree(6)").refused(BAD, "tree(0)", "tree(2)", "tree(-1)");
    }

    static void treeIsByHowManyMinutes() {
        Edges.promise(19, "By how many minutes LEAST was less, if a barred CELL was bare.");
        String[] gardens = {Lawn.rows("bxgbbb"), Lawn.rows("bxgbbb", "bxbbbb"), Lawn.rows("xgbbbb") + "socket 6;",
            MOVES_24, MOVES_25,
            STEPS_40, STEPS_48, Lawn.rows("bbbbbb", "bxxbbb", "blbbbb") + "socket 2;turn 0;climb 4;",
                Lawn.rows("gxbxgb", "bxbxbb")};
        for (String text : gardens) {
            Lawn x = Lawn.told(text);
            long least = x.ask("least(0)");
            for (int c = 0; c < 36; c++) {
                Lawn opened = Lawn.told(text);
                if (opened.ask("put(" + c + ", 3)") == 2 && least >= 0) {
                    x.due("tree(" + c + ")", least - opened.ask("least(0)"));
                }
            }
        }
    }

    static void dearestIsTheFirstThatCostsMost() {
        Edges.promise(20, "The barred CELL that costs most so (above 0), of several the least (what 0), what it "
            + "costs (1).");
        // it costs 1, the least that is above 0; the first CELL, the last one
        garden("socket 6;", "xgbbbb").due("least(0)", 4).due("dearest(0)", 0).due("dearest(1)", 1);
        Lawn last = garden("socket 23;", "bbbbbb", "bbbbbb", "bbbbbb", "bbbbbb", "bbbbbg", "bbbbgx");
        last.due("least(0)", 7).due("dearest(0)", 35).due("dearest(1)", 1).due("tree(35)", 1);
        // two that cost the same; one that costs more, ahead of the other and behind it
        garden("socket 2;turn 0;", "bbbbbb", "bxxbbb", "bgbbbb").due("dearest(0)", 7).due("dearest(1)", 2)
            .due("tree(8)", 2);
        garden("", "bxgbbb", "bxbbbb").due("dearest(0)", 1).due("dearest(1)", 7).due("tree(7)", 2);
        garden("socket 12;", "bxbbbb", "bxbbbb", "bxgbbb").due("dearest(0)", 13).due("dearest(1)", 5);
    }

    static void dearestIsBadStateOrNone() {
        Edges.promise(20, "BAD; STATE, NONE likewise; NONE: there is none.");
        Lawn x = garden("", "bxgbbb").refusedBeyond(BAD, "dearest(%)", 0, 1).questions("dearest(0)", "dearest(1)");
        x.due("dearest(0)", 1).due("put(1, 3)", 2).refused(NONE, "dearest(0)", "dearest(1)")
            .refusedBeyond(BAD, "dearest(%)", 0, 1);
        // barred ones that cost nothing: none is above 0
        garden("", "bbgbbb", "bbbbbb", "bbxbbb", "bbbbbb", "bbbbbb", "bbbbbx")
            .refused(NONE, "dearest(0)", "dearest(1)");
        garden("", "bbbbbb").refused(NONE, "dearest(0)", "dearest(1)");
        garden("", "bxgbbb", "xbbbbb").refused(NONE, "dearest(0)", "dearest(1)")
            .refused(BAD, "dearest(2)", "dearest(-1)");
        Lawn seven = garden("", "bxgggg", "bbgggb").due("count(0)", 7).questions("dearest(0)").due("put(35, 0)", 3);
        seven.refused(STATE, "dearest(0)", "dearest(1)").refused(BAD, "dearest(2)", "dearest(-1)");
        new Lawn().refused(STATE, "dearest(0)").refused(BAD, "dearest(2)");
    }

    /** How many MOVES the STEPS of LEAST are. */
    private static int movesOfLeast(Lawn x) {
        int moves = 0;
        int inOne = 0;
        long before = NONE;
        for (int s = 0; s < x.ask("least(1)"); s++) {
            long way = x.ask("least(" + (10 + s) + ")");
            inOne = way == before && inOne < 5 ? inOne + 1 : 1;
            moves += inOne == 1 ? 1 : 0;
            before = way;
        }
        return moves;
    }

    static void adoptTakes24() {
        Edges.promise(21, "STATE, NONE likewise; FULL: more than 24.");
        Lawn x = Lawn.told(MOVES_24).moves("1522");
        Edges.due("MOVES of LEAST", movesOfLeast(x.twin()), 24);
        x.due("adopt()", 24).due("count(2)", 24).due("run(0, 2)", 35).due("run(0, 0)", x.ask("least(0)"))
            .due("run(0, 3)", 0);
        x.due("adopt()", 24).refused(FULL, "move(0, 1)");
        Lawn more = Lawn.told(MOVES_25).moves("1522");
        Edges.due("MOVES of LEAST", movesOfLeast(more.twin()), 25);
        more.refused(FULL, "adopt()").due("clear()", 2).refused(FULL, "adopt()");
        Lawn seven = garden("", "bggggg", "bggbbb").due("count(0)", 7).due("put(35, 1)", 3);
        seven.refused(STATE, "adopt()").due("put(35, 3)", 1).due("adopt()", movesOfLeast(seven.twin()));
        garden("", "bxgbbb", "xbbbbb").refused(NONE, "adopt()");
        new Lawn().refused(STATE, "adopt()");
        Lawn.full().refused(STATE, "adopt()");
    }

    static void adoptJoinsAtMost5() {
        Edges.promise(21, "MOVES become LEAST's, STEPS one way behind another as one MOVE (5 at most each): how many "
            + "MOVES.");
        Lawn x = garden("turn 3;", "bbbbbb", "bbbbbb", "bbbbbb", "bbbbbb", "bbbbbb", "bbbbbg");
        x.due("adopt()", 2).due("count(2)", 2).due("moved(0, 0)", 1).due("moved(0, 1)", 5).due("moved(1, 0)", 2)
            .due("moved(1, 1)", 5);
        // a STEP, four of them; another way begins another MOVE
        garden("turn 0;", "bgbbbb").due("adopt()", 1).due("moved(0, 1)", 1).due("moved(1, 0)", BAD);
        garden("turn 0;", "bbbbgb").due("adopt()", 1).due("moved(0, 1)", 4);
        garden("turn 3;", "bbbgbb", "bbbbbb", "bbbgbb").due("adopt()", 2).due("moved(0, 1)", 3).due("moved(1, 1)", 2);
        // LEAST has no STEPS: there are no MOVES then
        garden("", "gbbbbb").due("adopt()", 0).due("count(2)", 0).due("run(0, 0)", 0);
        garden("", "bbbbbb").due("adopt()", 0).due("count(2)", 0);
        Lawn far = Lawn.told(STEPS_40).moves("15").due("adopt()", movesOfLeast(Lawn.told(STEPS_40)));
        far.due("run(0, 2)", 40).due("run(0, 0)", far.ask("least(0)")).due("run(0, 7)", far.ask("least(2)"));
    }

    // ---- promises 22 to 24.

    static void stepsIsBadOrNone() {
        Edges.promise(22, "STEPS from a CELL to another one (round what is barred). BAD; NONE: there is no way (also "
            + "from or to a barred one).");
        Lawn x = Lawn.busy();
        x.refusedBeyond(BAD, "steps(%, 0)", 0, 35).refusedBeyond(BAD, "steps(0, %)", 0, 35)
            .refusedBeyond(BAD, "steps(%, 2)", 0, 35);
        x.questions("steps(0, 35)", "steps(35, 0)", "steps(0, 0)");
        x.refused(NONE, "steps(2, 0)", "steps(0, 2)", "steps(2, 2)", "steps(30, 2)", "steps(35, 30)", "steps(30, 35)");
        x.due("steps(0, 0)", 0).due("steps(35, 35)", 0).due("steps(0, 1)", 1).due("steps(1, 3)", 4);
        new Lawn().due("steps(0, 35)", 10).due("steps(30, 5)", 10).due("steps(5, 6)", 6);
        Lawn snake = Lawn.told(Lawn.rows("bbbbbb", "xxxxxb", "bbbbbb", "bxxxxx", "bbbbbb", "xxxxxb"));
        snake.due("steps(0, 35)", 20).due("steps(35, 0)", 20).due("put(29, 2)", 3)
            .refused(NONE, "steps(0, 35)", "steps(35, 28)");
        snake.due("put(34, 3)", 2).due("steps(35, 0)", 20).due("put(34, 2)", 3).due("steps(35, 35)", 0);
    }

    static void beyondIsMoreStepsThanTheCord() {
        Edges.promise(23, "CELLS of grass that are more STEPS from the socket than the cord is long, or not to be "
            + "reached (bits).");
        Lawn.busy().questions("beyond()");
        for (int socket : new int[] {0, 35}) {
            for (int cord : new int[] {1, 2, 5, 9, 10, 99}) {
                long due = 0;
                for (int c = 0; c < 36; c++) {
                    int steps = Math.abs(c / 6 - socket / 6) + Math.abs(c % 6 - socket % 6);
                    due |= steps > cord ? 1L << c : 0;
                }
                Lawn.told("socket " + socket + ";cord " + cord + ";").due("beyond()", due);
            }
        }
        // grass alone, a SLOPE is; the socket's own is never; round what is barred
        Lawn x = Lawn.told(Lawn.rows("ggglhb", "xxxxxl", "gbbbbg") + "cord 5;");
        x.due("beyond()", Lawn.bits(11, 12, 17)).due("put(5, 2)", 3).due("beyond()", Lawn.bits(11, 12, 17));
        Lawn near = Lawn.told(Lawn.rows("ggglhb", "xxxxxl", "gbbbbg") + "cord 6;").due("beyond()", Lawn.bits(12, 17));
        near.due("put(5, 2)", 3).due("beyond()", Lawn.bits(11, 12, 17));
        Lawn.told(Lawn.rows("gxbbbb", "xbbbbg") + "cord 99;").due("beyond()", Lawn.bits(11));
        Lawn.told(Lawn.rows() + "cord 1;").due("beyond()", 0);
    }

    static void middleIsTheNearestToTheFarthest() {
        Edges.promise(24, "The CELL that is not barred from which the farthest CELL of grass is nearest, of several "
            + "the least (what 0), how far that is (1).");
        String[][] rows = {{"gbbbbb"}, {"gxgbbb"}, {"gbbbbb", "bgbbbb"}, {"gggggg"}, {"bbbbbb", "lbbbhg"}, {"glbbbb"}};
        int[][] dues = {{0, 0}, {7, 2}, {1, 1}, {2, 3}, {8, 3}, {0, 1}};
        for (int i = 0; i < rows.length; i++) {
            Lawn.told(Lawn.rows(rows[i]) + "socket 35;").due("middle(0)", dues[i][0]).due("middle(1)", dues[i][1]);
        }
        Lawn last = Lawn.told(Lawn.rows("bbbbbb", "bbbbbb", "bbbbbb", "bbbbbb", "bbbbbb", "bbbbbg"));
        last.due("middle(0)", 35).due("middle(1)", 0);
        new Lawn().due("middle(0)", 14).due("middle(1)", 6);
    }

    static void middleIsBadOrNone() {
        Edges.promise(24, "BAD; NONE: there is none from which all are reached, no grass.");
        Lawn x = Lawn.busy().refusedBeyond(BAD, "middle(%)", 0, 1).questions("middle(0)", "middle(1)");
        Lawn shut = garden("", "gxgbbb", "xbbbbb").refused(NONE, "middle(0)", "middle(1)")
            .refusedBeyond(BAD, "middle(%)", 0, 1);
        shut.due("put(0, 3)", 0).due("middle(0)", 2).due("middle(1)", 0);
        garden("", "bbbbbb").refused(NONE, "middle(0)", "middle(1)").refusedBeyond(BAD, "middle(%)", 0, 1);
    }
}
