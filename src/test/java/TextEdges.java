/** THE GARDEN, THE TAPE, the text and its FAULTS, and promises 1 to 8: a test for each sentence with a boundary. */
public final class TextEdges {
    private static final int BAD = Edges.BAD, STATE = Edges.STATE, FULL = Edges.FULL, NONE = Edges.NONE;
    private static final String LETTERS = "abcdefghijklmnopqrstuvwxyz";
    private static final String KINDS = "glxbh";
    private static final String[] NAMES = {"row", "socket", "turn", "climb", "bag", "empty", "cord", "dew", "high",
        "sun"};
    /** "turn 2; ", the highest byte first. */
    private static final long TURN_2 = 0x7475726e20323b20L;

    public static void main(String[] args) {
        Edges.run(TextEdges.class);
    }

    private static String blanks(int n) {
        return " ".repeat(n);
    }

    /** A text that is taken, so many lines, and what one question answers then. */
    private static void taken(String text, int lines, String call, long want) {
        Lawn x = Lawn.busy().tell(text);
        x.due("garden()", lines).due("fault()", 0).due("count(4)", 0).due(call, want);
    }

    private static void isAsAtFirst(Lawn x) {
        int[] rules = {0, 1, 2, 30, 2, 20, 0};
        for (int i = 0; i < rules.length; i++) {
            x.due("rule(" + i + ")", rules[i]);
        }
        for (int c = 0; c < 36; c++) {
            x.due("cell(" + c + ", 0)", 0).due("cell(" + c + ", 1)", 3).due("cell(" + c + ", 2)", 3);
            x.due("cell(" + c + ", 3)", NONE);
        }
        x.due("count(2)", 0);
    }

    // ---- the garden.

    static void cellsHaveNumbers() {
        Edges.term("THE GARDEN has CELLS 0 to 35 (6 rows of 6; CELL 6 times its row and its column)");
        Lawn x = Lawn.busy();
        String[] calls = {"cell(%, 0)", "steps(%, 0)", "steps(0, %)", "robot(%, 0, 0, 0, 0, 0)",
            "until(%, 0, 0, 0, 0, 1)",
            "never(%, 0, 0)", "best(%, 0, 0, 0, 0)", "odds(%, 0, 0, 0, 0)", "odds(0, 0, %, 0, 0)", "put(%, 3)"};
        for (String call : calls) {
            x.takenWithin(call, 0, 35).refusedBeyond(BAD, call, 0, 35);
        }
        Lawn barred = Lawn.told(Lawn.rows("xbgbbb", "bbbbbb", "bbbbbb", "bbbbbb", "bbbbbb", "bbbbbx") + "socket 7;");
        barred.takenWithin("tree(%)", 0, 35).refusedBeyond(BAD, "tree(%)", 0, 35);
        for (int c = 0; c < 36; c++) {
            String row = blanks(6).replace(' ', 'b');
            String[] rows = {row, row, row, row, row, row};
            rows[c / 6] = row.substring(0, c % 6) + "h" + row.substring(c % 6 + 1);
            Lawn one = Lawn.told(Lawn.rows(rows));
            for (int other = 0; other < 36; other++) {
                one.due("cell(" + other + ", 0)", other == c ? 4 : 3);
            }
        }
    }

    static void cellsAreOneOfFive() {
        Edges.term("each one of: g (0: grass), l (1: grass on a SLOPE), x (2: barred), b (3: bare), h (4: a heap).");
        for (int kind = 0; kind < 5; kind++) {
            String row = String.valueOf(KINDS.charAt(kind)).repeat(6);
            Lawn x = Lawn.told("row " + row + ";row gggggg;row " + row + ";socket 6;");
            for (int column = 0; column < 6; column++) {
                x.due("cell(" + column + ", 0)", kind).due("cell(" + (6 + column) + ", 0)", 0);
                x.due("cell(" + (12 + column) + ", 0)", kind).due("cell(" + (18 + column) + ", 0)", 0);
            }
        }
        Lawn x = Lawn.busy();
        x.refusedBeyond(BAD, "put(20, %)", 0, 4).due("cell(20, 0)", 0);
        for (int kind = 4; kind >= 0; kind--) {
            x.due("put(20, " + kind + ")", kind == 4 ? 0 : kind + 1).due("cell(20, 0)", kind);
        }
    }

    static void allIsGrassAtFirst() {
        Edges.term("All are grass at first.");
        Lawn x = new Lawn();
        for (int c = 0; c < 36; c++) {
            x.due("cell(" + c + ", 0)", 0);
        }
        x.due("count(0)", 36).due("count(1)", 0);
    }

    static void waysHaveNumbers() {
        Edges.term("WAYS 0 to 3: north (a row up), east (a column on), south, west.");
        Lawn x = Lawn.busy();
        String[] calls = {"move(%, 1)", "robot(0, %, 0, 0, 0, 0)", "until(0, %, 0, 0, 0, 1)", "never(0, %, 0)",
            "best(0, %, 0, 0, 0)", "odds(0, %, 0, 0, 0)"};
        for (String call : calls) {
            x.takenWithin(call, 0, 3).refusedBeyond(BAD, call, 0, 3);
        }
        int[] cells = {8, 15, 20, 13};
        for (int way = 0; way < 4; way++) {
            Lawn.told("socket 14;").due("move(" + way + ", 1)", 1).due("run(0, 6)", cells[way])
                .due("robot(14, " + way + ", 0, 0, 1, 0)", cells[way]);
        }
    }

    static void whatIsBeyondIsBarred() {
        Edges.term("What is beyond is barred.");
        int[][] borders = {{0, 1, 2, 3, 4, 5}, {5, 11, 17, 23, 29, 35}, {30, 31, 32, 33, 34, 35},
            {0, 6, 12, 18, 24, 30}};
        int[] back = {6, -1, -6, 1};
        for (int way = 0; way < 4; way++) {
            for (int c : borders[way]) {
                Lawn.told("socket " + c + ";").due("move(" + way + ", 1)", 1)
                    .runs(0, 2 - Math.abs(2 - way), 0, 0, 1, 0, 0, c)
                    .due("robot(" + c + ", " + way + ", 2, 0, 1, 0)", c)
                        .due("robot(" + c + ", " + way + ", 2, 0, 1, 4)", 1);
                int inside = c + back[way];
                Lawn.told("socket " + inside + ";").due("move(" + way + ", 2)", 1).due("run(0, 2)", 1)
                    .due("run(0, 6)", c)
                    .due("robot(" + inside + ", " + way + ", 2, 0, 2, 0)", c)
                    .due("robot(" + inside + ", " + way + ", 2, 0, 2, 4)", 1);
            }
        }
        new Lawn().due("steps(5, 6)", 6).due("steps(29, 30)", 6).due("steps(0, 35)", 10);
    }

    static void theFirstThatFits() {
        Edges.term("Answers: BAD -1 (a number is not as told, there is no such CELL, MOVE, IMAGE, SHEET), STATE -2 "
            + "(as told), FULL -3, NONE -4 (there is none), the first that fits");
        Lawn x = Lawn.full();
        // BAD is ahead of STATE, of FULL
        x.refused(STATE, "put(7, 2)").refused(BAD, "put(7, 5)", "put(36, 2)", "put(-1, 2)");
        x.refused(STATE, "robot(30, 0, 0, 0, 0, 0)")
            .refused(BAD, "robot(30, 4, 0, 0, 0, 0)", "robot(30, 0, 4, 0, 0, 0)",
            "robot(30, 0, 0, 0, 1000, 0)", "robot(30, 0, 0, 0, 0, 6)");
        x.refused(STATE, "until(30, 0, 0, 0, 1, 1)")
            .refused(BAD, "until(30, 0, 0, 0, 2, 1)", "until(30, 0, 4, 0, 1, 1)");
        x.refused(STATE, "never(30, 0, 0)").refused(BAD, "never(30, 0, 3)");
        x.refused(STATE, "best(30, 0, 0, 0, 0)").refused(BAD, "best(30, 0, 0, 0, 2)", "best(30, 0, 0, 1000, 0)");
        x.refused(STATE, "odds(30, 0, 0, 0, 0)").refused(BAD, "odds(30, 0, 36, 0, 0)", "odds(30, 0, 0, 21, 0)");
        x.refused(FULL, "move(3, 5)").refused(BAD, "move(4, 5)", "move(3, 6)", "move(-1, 1)", "move(0, 0)");
        x.refused(STATE, "least(0)", "tree(30)", "dearest(0)").refused(BAD, "least(3)", "tree(0)", "dearest(2)");
        // of grass that is too much and can not be reached STATE is the first
        Lawn shut = Lawn.told(Lawn.rows("bxgggg", "xbgggg"));
        shut.refused(STATE, "least(0)", "tree(1)", "dearest(0)", "adopt()");
        shut.due("put(2, 3)", 0).due("least(0)", NONE).due("adopt()", NONE);
        // BAD is ahead of NONE
        shut.refused(NONE, "steps(0, 1)", "trips(0)", "dearest(0)", "tree(1)");
        shut.refused(BAD, "steps(36, 1)", "trips(2)", "dearest(2)", "tree(0)", "least(9)");
        Lawn bare = Lawn.told(Lawn.rows());
        bare.refused(NONE, "middle(0)", "weeks(60)", "dearest(0)").refused(BAD, "middle(2)", "weeks(61)", "dearest(2)");
    }

    static void whatIsRefusedChangesNothing() {
        Edges.term("what is refused changes nothing (but THE TAPE, as told).");
        Lawn x = Lawn.full();
        x.refused(BAD, "end(321)", "rule(7)", "cell(0, 4)", "put(0, 5)", "move(0, 6)", "moved(24, 0)", "run(1000, 0)",
            "mow(1000)", "cord(-1, 0)", "trips(2)", "need(1000)", "least(3)", "tree(0)", "dearest(2)", "steps(0, 36)",
            "middle(2)", "robot(0, 0, 0, 0, 1000, 0)", "until(0, 0, 0, 0, 2, 1)", "never(0, 0, 3)",
                "best(0, 4, 0, 0, 0)",
            "odds(0, 0, 0, 21, 0)", "week(100)", "high(61, 0)", "weeks(61)", "stripes(3)", "keep(2)", "back(2)",
            "sheet(0, 0, 49)", "lay(4, 0, 0)", "read(0, 0, 0, 25)", "count(7)");
        x.refused(STATE, "put(7, 2)", "least(0)", "tree(2)", "dearest(0)", "adopt()", "robot(2, 0, 0, 0, 0, 0)",
            "until(2, 0, 0, 0, 0, 1)", "never(2, 0, 0)", "best(2, 0, 0, 0, 0)", "odds(2, 0, 0, 0, 0)");
        x.refused(FULL, "feed(" + TURN_2 + ")", "move(0, 1)", "read(0, 0, 0, 1)");
        x.refused(NONE, "steps(0, 2)", "weeks(60)", "until(0, 0, 0, 0, 1, 1)");
        x.refused(-12, "lay(0, 6, 1)", "lay(0, -1, 1)").refused(-14, "sheet(0, 2, -1)")
            .refused(-20, "read(0, 0, 4, 1)");
        x.refusedText("turn 4;", 5, 3).refusedText("turn 0;bag 1;high 9;row xxxxxx;", 31, 6);
        Lawn busy = Lawn.busy().refused(-11, "lay(3, 0, 1)").refused(-21, "read(0, 0, 2, 2)");
        busy.tell("socket 2;").due("garden()", 1).due("put(2, 3)", 0).tell("turn 3;")
            .refused(STATE, "back(0)", "back(1)");
    }

    static void numbersBeginAt0() {
        Edges.term("What is numbered has its numbers from 0 on, as it comes, where nothing else is told.");
        // MOVES as they come, those that are read behind those that were told
        Lawn x = Lawn.busy().due("moved(0, 0)", 3).due("moved(4, 1)", 2).due("moved(5, 1)", 2).due("moved(6, 0)", 3);
        x.refusedBeyond(BAD, "moved(%, 0)", 0, 6).due("move(2, 4)", 8).due("moved(7, 0)", 2).due("moved(7, 1)", 4);
        x.refusedBeyond(BAD, "moved(%, 0)", 0, 7);
        // rows of the text, CELLS of a SHEET, STEPS of LEAST
        taken("row bbbbbb;row hhhhhh;", 2, "cell(0, 0)", 3);
        taken("row bbbbbb;row hhhhhh;", 2, "cell(6, 0)", 4);
        new Lawn().due("sheet(0, 0, 1)", 1).due("lay(0, 0, 1)", 1).refusedBeyond(-12, "lay(0, %, 1)", 0, 0);
        Lawn.told(Lawn.rows("bbbbbb", "bgbbbb")).due("least(10)", 1).due("least(11)", 2)
            .refused(BAD, "least(12)", "least(9)");
        // of the STEPS of trips something else is told: 1 on
        Lawn.told("cord 1;").moves("12").due("trips(1)", 2).due("cord(0, 0)", 0).due("cord(2, 0)", 2);
    }

    static void calls512() {
        Edges.what("An object is used for at most 512 calls after it has been made; what later calls answer is free.");
        Lawn x = new Lawn();
        for (int i = 0; i < 127; i++) {
            x.due("feed(" + TURN_2 + ")", 8).due("garden()", 1).due("move(1, 2)", 1).due("clear()", 1);
        }
        x.due("rule(1)", 2).due("sheet(0, 2, 48)", 1).due("keep(0)", 0).due("count(5)", 48);
        Lawn full = Lawn.full();
        while (full.calls() <= 506) {
            full.due("move(0, 1)", FULL).due("keep(1)", 1);
        }
        full.due("count(2)", 24).due("count(4)", 320).due("back(0)", 3).due("clear()", 3);
    }

    // ---- the tape.

    static void tapeHas320Bytes() {
        Edges.term("THE TAPE has 320 bytes, places from 0.");
        taken(blanks(313) + "turn 3;", 1, "rule(1)", 3);
        taken("turn 3;" + blanks(313), 1, "rule(1)", 3);
        taken(blanks(320), 0, "rule(1)", 1);
        Lawn x = Lawn.busy();
        x.refusedText("#" + blanks(319), 0, 1);
        x.refusedText(blanks(319) + "#", 319, 1);
        x.refusedText(blanks(314) + "turn 3", 320, 2);
        x.refusedText(blanks(319) + "t", 319, 2);
    }

    static void tokensAreAsLongAsMayBe() {
        Edges.term("TOKENS, each as long as may be");
        Lawn x = Lawn.busy();
        x.refusedText("turnturn 2;", 0, 2);
        x.refusedText("turn 2turn 3;", 6, 2);
        x.refusedText("row ggggggg;", 4, 3);
        x.refusedText("sun 123;", 4, 3);
        x.refusedText("sun 12;", 6, 2);
        x.refusedText("bag 2000;", 4, 1);
        x.refusedText("n".repeat(320), 0, 2);
        x.refusedText("row " + "g".repeat(316), 4, 3);
        x.refusedText("row " + "g".repeat(6), 10, 2);
        taken("bag 200;", 1, "rule(3)", 200);
        taken("sun 12 3;", 1, "cell(12, 2)", 3);
    }

    static void blanksAreAnyNumber() {
        Edges.term("any number of blanks (32) ahead of, between, behind them (one at least between two NAMES, "
            + "between two NUMBERS; else none is needed)");
        taken("turn2;row gggggl;sun1 2;", 3, "cell(5, 0)", 1);
        taken("turn2;row gggggl;sun1 2;", 3, "cell(1, 2)", 2);
        for (int n : new int[] {0, 1, 2, 50}) {
            String b = blanks(n);
            taken(b + "turn" + b + "2" + b + ";" + b + "bag" + b + "7" + b + ";" + b, 2, "rule(3)", 7);
            taken(b + "row " + b + "gggggl" + b + ";" + b, 1, "cell(5, 0)", 1);
            taken(b + "sun" + b + "1 " + b + "2" + b + ";" + b, 1, "cell(1, 2)", 2);
            Lawn.busy().refusedText(b + "turn" + b + "4" + b + ";", 2 * n + 4, 3);
        }
        Lawn x = Lawn.busy();
        x.refusedText("rowgggggl;", 0, 2);
        x.refusedText("sun12;", 5, 2);
        // blanks stand between tokens, not in them
        x.refusedText("tu rn 2;", 0, 2);
        x.refusedText("row ggg ggg;", 4, 3);
        x.refusedText("bag 1 0;", 6, 2);
    }

    static void everyOtherByteIsNoToken() {
        Edges.term("NAMES (a .. z), NUMBERS (1 to 3 figures), the sign ; (every other byte is no TOKEN).");
        for (int b = 0; b < 256; b++) {
            char sign = (char) b;
            boolean isLetter = LETTERS.indexOf(sign) >= 0;
            boolean isFigure = "0123456789".indexOf(sign) >= 0;
            if (sign == ' ') {
                taken("turn 2 ;", 1, "rule(1)", 2);
                taken(" ", 0, "rule(1)", 1);
                continue;
            }
            Lawn x = Lawn.busy();
            x.refusedText(String.valueOf(sign), 0, isLetter || isFigure || sign == ';' ? 2 : 1);
            x.refusedText("  " + sign + ";", 2, isLetter || isFigure || sign == ';' ? 2 : 1);
            // behind a number a figure makes it longer, a letter is no sign, a second sign begins no line
            int place = isFigure ? 5 : sign == ';' ? 7 : 6;
            x.refusedText("turn 2" + sign + ";", place, isFigure ? 3 : isLetter || sign == ';' ? 2 : 1);
        }
    }

    static void numbersHaveOneToThreeFigures() {
        Edges.term("NUMBERS (1 to 3 figures)");
        taken("dew 0;", 1, "rule(6)", 0);
        taken("dew 9;", 1, "rule(6)", 9);
        taken("dew 09;", 1, "rule(6)", 9);
        taken("dew 009;", 1, "rule(6)", 9);
        taken("dew 000;", 1, "rule(6)", 0);
        taken("dew 90;", 1, "rule(6)", 90);
        taken("dew 999;", 1, "rule(6)", 999);
        taken("dew 123;", 1, "rule(6)", 123);
        Lawn x = Lawn.busy();
        x.refusedText("dew 0000;", 4, 1);
        x.refusedText("dew 0009;", 4, 1);
        x.refusedText("dew 1000;", 4, 1);
        x.refusedText("dew 12345678901;", 4, 1);
        x.refusedText("dew " + "0".repeat(316), 4, 1);
        x.refusedText("sun 0001 1;", 4, 1);
        x.refusedText("sun 1 0001;", 6, 1);
        x.refusedText("1000", 0, 1);
    }

    // ---- the lines.

    static void aTextIsLines() {
        Edges.term("text: { line }");
        // none, one, two; each has its sign, nothing stands between them or behind them
        taken("", 0, "rule(1)", 1);
        taken(" ", 0, "rule(1)", 1);
        taken("turn 3;", 1, "rule(1)", 3);
        taken("turn 3;bag 4;", 2, "rule(3)", 4);
        taken(" turn 3 ; bag 4 ; ", 2, "rule(1)", 3);
        Lawn x = Lawn.busy();
        x.refusedText("turn 3", 6, 2).refusedText("turn 3;bag 4", 12, 2).refusedText("turn 3 bag 4;", 7, 2);
        x.refusedText(";", 0, 2).refusedText("turn 3;;", 7, 2).refusedText("turn 3;;bag 4;", 7, 2);
    }

    static void aLineHasItsTokensAndNoOther() {
        Edges.term("line: row S ; | socket N ; | turn N ; | climb N ; | bag N ; | empty N ; | cord N ; | dew N ; | "
            + "high N ; | sun N N ;");
        Lawn x = Lawn.busy();
        for (String name : NAMES) {
            String whole = name + (name.equals("row") ? " gggggg" : name.equals("sun") ? " 1 1" : " 1");
            taken(whole + ";", 1, "fault()", 0);
            // one too few: the sign stands where S or N is due; one too many; none at all
            int last = whole.lastIndexOf(' ');
            x.refusedText(whole.substring(0, last) + " ;", last + 1, 2);
            x.refusedText(whole + whole.substring(last) + ";", whole.length() + 1, 2);
            x.refusedText(whole + " " + whole + ";", whole.length() + 1, 2);
            x.refusedText(whole.substring(name.length() + 1) + ";", 0, 2);
            // N where S is due, a NAME where N is
            x.refusedText(name + (name.equals("row") ? " 111;" : " ggg;"), name.length() + 1, 2);
        }
        x.refusedText("sun 1 ggg;", 6, 2);
    }

    static void rowsHaveSixLettersAndAreSix() {
        Edges.term("row: S is a NAME of just 6 of these letters: the next row (6 at most; those that are not told "
            + "are grass).");
        for (int rows = 0; rows <= 6; rows++) {
            Lawn x = Lawn.busy().tell("row bbbbbh;".repeat(rows));
            x.due("garden()", rows);
            for (int c = 0; c < 36; c++) {
                x.due("cell(" + c + ", 0)", c >= 6 * rows ? 0 : c % 6 == 5 ? 4 : 3);
            }
        }
        Lawn x = Lawn.busy();
        for (int length : new int[] {1, 2, 3, 4, 5, 7, 8, 12, 36}) {
            x.refusedText("row " + "g".repeat(length) + ";", 4, 3);
        }
        for (int column = 0; column < 6; column++) {
            for (int i = 0; i < 26; i++) {
                String row = "bbbbbb".substring(column + 1) + LETTERS.charAt(i) + "bbbbbb".substring(6 - column);
                int kind = KINDS.indexOf(LETTERS.charAt(i));
                if (kind >= 0) {
                    taken("row gggggg;row " + row + ";", 2, "cell(" + (11 - column) + ", 0)", kind);
                } else {
                    x.refusedText("row gggggg;row " + row + ";", 15, 3);
                }
            }
        }
        // the rows need not stand behind one another
        taken("row bbbbbb;turn 2;row hhhhhh;", 3, "cell(6, 0)", 4);
    }

    /** A line with one number: the first value without it, its bounds, and the next numbers beyond them. */
    private static void bounds(String name, String call, int first, int least, int most) {
        taken("", 0, call, first);
        taken(name + " " + least + ";", 1, call, least);
        taken(name + " " + most + ";", 1, call, most);
        Lawn x = Lawn.busy();
        int place = name.length() + 1;
        x.refusedText(name + " " + (most + 1) + ";", place, most == 999 ? 1 : 3);
        if (least > 0) {
            x.refusedText(name + " " + (least - 1) + ";", place, 3);
        }
        if (most < 999) {
            x.refusedText(name + " 999;", place, 3);
        }
        x.refusedText(name + " -1;", place, 1);
    }

    static void socketBounds() {
        Edges.term("socket: a CELL (0, if it is not told).");
        bounds("socket", "rule(0)", 0, 0, 35);
    }

    static void turnBounds() {
        Edges.term("turn: minutes of a quarter (0 to 3; 1).");
        bounds("turn", "rule(1)", 1, 0, 3);
    }

    static void climbBounds() {
        Edges.term("climb: minutes of a STEP north to a SLOPE (1 to 4; 2).");
        bounds("climb", "rule(2)", 2, 1, 4);
    }

    static void bagBounds() {
        Edges.term("bag: 1 to 200 (30).");
        bounds("bag", "rule(3)", 30, 1, 200);
    }

    static void emptyBounds() {
        Edges.term("empty: minutes (0 to 9; 2).");
        bounds("empty", "rule(4)", 2, 0, 9);
    }

    static void cordBounds() {
        Edges.term("cord: 1 to 99 (20).");
        bounds("cord", "rule(5)", 20, 1, 99);
    }

    static void dewBounds() {
        Edges.term("dew: the minute till which grass is wet (0 to 999; 0).");
        bounds("dew", "rule(6)", 0, 0, 999);
    }

    static void highBounds() {
        Edges.term("high: HEIGHT of all grass (0 to 60; 3).");
        bounds("high", "cell(0, 1)", 3, 0, 60);
        bounds("high", "cell(35, 1)", 3, 0, 60);
        // of all grass, whether its row stands ahead of the line or behind it
        taken("row glxbhg;high 7;row lbbbbb;socket 6;", 4, "cell(1, 1)", 7);
        taken("row glxbhg;high 7;row lbbbbb;socket 6;", 4, "cell(6, 1)", 7);
        taken("row glxbhg;high 7;", 2, "cell(2, 1)", 0);
        taken("row glxbhg;high 7;", 2, "cell(3, 1)", 0);
        taken("row glxbhg;high 7;", 2, "cell(4, 1)", 0);
    }

    static void sunBounds() {
        Edges.term("sun: a CELL, by how much it grows in a week (0 to 9; 3).");
        for (int c : new int[] {0, 1, 34, 35}) {
            taken("", 0, "cell(" + c + ", 2)", 3);
            taken("sun " + c + " 0;", 1, "cell(" + c + ", 2)", 0);
            taken("sun " + c + " 9;", 1, "cell(" + c + ", 2)", 9);
            taken("sun " + c + " 9;", 1, "cell(2, 2)", 3);
            int place = 5 + String.valueOf(c).length();
            Lawn.busy().refusedText("sun " + c + " 10;", place, 3).refusedText("sun " + c + " 999;", place, 3)
                .refusedText("sun " + c + " -1;", place, 1);
        }
        Lawn.busy().refusedText("sun 36 3;", 4, 3).refusedText("sun 999 3;", 4, 3).refusedText("sun -1 3;", 4, 1);
    }

    // ---- the faults.

    static void fault1IsAtItsFirstByte() {
        Edges.term("1 no TOKEN, a NUMBER that is too long (its first byte).");
        Lawn x = Lawn.busy();
        x.refusedText("A", 0, 1);
        x.refusedText("   1234   ", 3, 1);
        for (String name : NAMES) {
            x.refusedText(name + "#", name.length(), 1);
            x.refusedText(name + " 1234;", name.length() + 1, 1);
            x.refusedText(name + "  \t", name.length() + 2, 1);
        }
        x.refusedText("row gggggg,", 10, 1);
        x.refusedText("row gggggg 1234", 11, 1);
        x.refusedText("turn 2:", 6, 1);
        x.refusedText("turn 2 1234", 7, 1);
        x.refusedText("sun 1,2;", 5, 1);
        x.refusedText("sun 1 2.", 7, 1);
        x.refusedText("sun 1 2 3456", 8, 1);
        x.refusedText("turn 2;?", 7, 1);
        x.refusedText("turn 2;1234", 7, 1);
    }

    static void fault2NamesThatBeginNoLine() {
        Edges.term("2 a TOKEN that can not stand there (a NAME that begins no line; or the end: the length).");
        Lawn x = Lawn.busy();
        for (String name : NAMES) {
            x.refusedText(name.substring(1) + " 1;", 0, 2);
            x.refusedText(name.substring(0, name.length() - 1) + " 1;", 0, 2);
            x.refusedText(name + "s 1;", 0, 2);
            for (int i = 0; i < name.length(); i++) {
                x.refusedText(name.substring(0, i) + "q" + name.substring(i + 1) + " 1;", 0, 2);
            }
            // ahead of a line there is neither a number nor a sign
            x.refusedText("turn 2;" + "5 " + name, 7, 2);
            x.refusedText(";" + name, 0, 2);
            // behind the name there is neither the end nor a sign
            x.refusedText(name, name.length(), 2);
            x.refusedText(name + blanks(9), name.length() + 9, 2);
            x.refusedText(name + " ;", name.length() + 1, 2);
        }
        for (String name : NAMES) {
            boolean isRow = name.equals("row");
            x.refusedText(name + (isRow ? " 1;" : " gggggg;"), name.length() + 1, 2);
            String whole = isRow ? "row gggggg" : name.equals("sun") ? "sun 1 1" : name + " 1";
            x.refusedText(whole, whole.length(), 2);
            x.refusedText(whole + blanks(3), whole.length() + 3, 2);
            x.refusedText(whole + " 1;", whole.length() + 1, 2);
            x.refusedText(whole + " gggggg;", whole.length() + 1, 2);
        }
        x.refusedText("sun 1", 5, 2);
        x.refusedText("sun 1 ", 6, 2);
        x.refusedText("sun 1;", 5, 2);
        x.refusedText("sun 1 gggggg;", 6, 2);
    }

    static void fault3OutOfBoundsOrNoS() {
        Edges.term("3 a NUMBER out of its bounds, a NAME that is no S.");
        Lawn x = Lawn.busy();
        String[] lines = {"socket 36", "turn 4", "climb 0", "climb 5", "bag 0", "bag 201", "empty 10", "cord 0",
            "cord 100",
            "high 61", "sun 36", "row ggggg", "row ggggggg", "row gggggy", "row yggggg", "row row", "row socket"};
        for (String line : lines) {
            int place = line.indexOf(' ') + 1;
            x.refusedText(line + ";", place, 3);
            x.refusedText("dew 1; " + line, 7 + place, 3);
        }
        x.refusedText("sun 35 10;", 7, 3);
    }

    static void fault4ForTheSecondTime() {
        Edges.term("4 any but row, sun for the second time (its NAME), sun of a CELL for the second time (the CELL).");
        Lawn x = Lawn.busy();
        for (String name : NAMES) {
            if (name.equals("row") || name.equals("sun")) {
                continue;
            }
            String line = name + " 1;";
            taken(line, 1, "count(4)", 0);
            x.refusedText(line + line, line.length(), 4);
            x.refusedText(line + " " + name, line.length() + 1, 4);
            x.refusedText(line + "row gggggg;sun 1 1; " + name + " 999;", line.length() + 20, 4);
        }
        taken("row gggggg;row gggggg;", 2, "count(4)", 0);
        taken("sun 0 1;sun 1 1;sun 35 1;sun 34 1;", 4, "cell(34, 2)", 1);
        for (int c : new int[] {0, 1, 31, 32, 33, 35}) {
            String line = "sun " + c + " 1;";
            x.refusedText(line + "sun 7 1;" + line, line.length() + 12, 4);
            x.refusedText(line + "sun " + c, line.length() + 4, 4);
        }
        x.refusedText("sun 7 1;sun 007 2;", 12, 4);
        // all lines once, in any order
        taken("sun 1 1;high 1;dew 1;cord 1;empty 1;bag 1;climb 1;turn 1;socket 1;row gggggg;", 10, "rule(0)", 1);
    }

    static void fault5TheSeventhRow() {
        Edges.term("5 the 7th row (its NAME).");
        taken("row bbbbbb;".repeat(6) + "turn 2;", 7, "rule(1)", 2);
        taken("row bbbbbb;".repeat(6), 6, "cell(35, 0)", 3);
        Lawn x = Lawn.busy();
        x.refusedText("row bbbbbb;".repeat(6) + "row bbbbbb;", 66, 5);
        x.refusedText("row bbbbbb;".repeat(7) + "row bbbbbb;", 66, 5);
        x.refusedText("row bbbbbb;".repeat(6) + "turn 2;  row", 75, 5);
    }

    static void fault6TheSocketIsBarred() {
        Edges.term("Behind all (the length): 6 the socket is barred.");
        Lawn x = Lawn.busy();
        x.refusedText("row xggggg;", 11, 6);
        x.refusedText("row xggggg;" + blanks(309), 320, 6);
        x.refusedText("socket 3;row gggxgg;", 20, 6);
        x.refusedText("row gggxgg;socket 3; ", 21, 6);
        x.refusedText("row gggggg;".repeat(5) + "row gggggx;socket 35;", 76, 6);
        // behind all: any other fault is met first
        x.refusedText("row xggggg;turn 4;", 16, 3);
        x.refusedText("row xggggg;turn 3", 17, 2);
        x.refusedText("row xggggg;#", 11, 1);
        taken("row xggggg;socket 1;", 2, "rule(0)", 1);
        taken("row gxgggg;", 1, "cell(1, 0)", 2);
        taken("row hxbbbb;", 1, "cell(0, 0)", 4);
    }

    static void theFirstMetAsItIsRead() {
        Edges.term("FAULTS, the first met as it is read (a TOKEN is read when the one before has been taken): ");
        Lawn x = Lawn.busy();
        // what has been read is judged before the next is read
        x.refusedText("turn 4#", 5, 3);
        x.refusedText("turn 4 5;", 5, 3);
        x.refusedText("row ggggg#", 4, 3);
        x.refusedText("turns#", 0, 2);
        x.refusedText("turns 1234;", 0, 2);
        x.refusedText("turn 1;turn#", 7, 4);
        x.refusedText("turn 1;turn 1234;", 7, 4);
        x.refusedText("turn 1;turn", 7, 4);
        x.refusedText("sun 5 1;sun 5#", 12, 4);
        x.refusedText("sun 5 1;sun 5 1234;", 12, 4);
        x.refusedText("sun 36#", 4, 3);
        x.refusedText("sun 36 10;", 4, 3);
        x.refusedText("sun 5 10#", 6, 3);
        x.refusedText("row gggggg;".repeat(6) + "row#", 66, 5);
        x.refusedText("row gggggg;".repeat(6) + "row ggggg;", 66, 5);
        // what is too long is met before it could be out of its bounds, or stand there or not
        x.refusedText("turn 9999;", 5, 1);
        x.refusedText("row 1234;", 4, 1);
        // the first of two
        x.refusedText("turn 2 # 4;", 7, 1);
        x.refusedText("bag 0; turn 4;", 4, 3);
        x.refusedText("turn; row xggggg;", 4, 2);
    }

    // ---- promises 1 to 8.

    static void aTextThatIsTakenTellsAll() {
        Edges.term("A text that is taken tells all, in place of what there was (what no line tells is as at first); "
            + "no MOVES, no PICTURE; IMAGES stay; SHEETS stay.");
        Lawn x = Lawn.full().tell("");
        x.due("count(2)", 24).due("garden()", 0);
        isAsAtFirst(x);
        x = Lawn.full().tell("bag 4;");
        x.due("garden()", 1).due("rule(3)", 4).due("rule(1)", 1).due("cell(8, 2)", 3).due("count(2)", 0)
            .due("stripes(2)", 36);
        x.due("count(3)", 2).due("count(5)", 6);
        Lawn images = x.twin();
        images.due("back(0)", 3).due("cell(1, 0)", 1).due("cell(6, 3)", 3).due("cell(6, 1)", 0).due("cell(7, 1)", 5);
        images.due("back(1)", 4).due("cell(6, 1)", 3).due("cell(11, 1)", 8).due("moved(3, 1)", 5).due("rule(3)", 4);
        Lawn sheets = x.twin();
        sheets.due("read(0, 0, 0, 2)", 2).due("moved(1, 1)", 5).due("read(2, 2, 46, 1)", 1).due("moved(2, 1)", 4);
        sheets.due("lay(3, 47, 0)", 1).due("lay(1, 1, 0)", -12);
    }

    static void aNewObject() {
        Edges.promise(1, "All as told at first; SHEETS have nothing.");
        Lawn x = new Lawn();
        isAsAtFirst(x);
        x.due("fault()", 0).due("torn()", 0).due("count(3)", 0).due("count(4)", 0).due("count(5)", NONE)
            .due("clear()", 0);
        x.due("stripes(2)", 36).due("count(6)", 108);
        x.refused(STATE, "back(0)", "back(1)")
            .refused(-11, "lay(0, 0, 0)", "lay(1, 0, 0)", "lay(2, 0, 0)", "lay(3, 0, 0)");
        for (int k = 0; k < 4; k++) {
            x.due("read(" + k + ", 0, 0, 1)", 0).due("torn()", 1);
        }
    }

    static void feedIsFullAbove320() {
        Edges.promise(2, "FULL: more than 320.");
        Lawn x = Lawn.busy();
        x.due("end(0)", 33);
        for (int bytes = 8; bytes <= 320; bytes += 8) {
            x.due("feed(" + TURN_2 + ")", bytes);
        }
        x.refused(FULL, "feed(0)", "feed(-1)", "feed(" + Long.MIN_VALUE + ")", "feed(" + Long.MAX_VALUE + ")");
        x.due("end(313)", 320).refused(FULL, "feed(0)").due("count(4)", 313);
        x.due("end(312)", 313).due("feed(0)", 320).refused(FULL, "feed(0)");
    }

    static void feedAnswersHowManyItHas() {
        Edges.promise(2, "Eight bytes come behind THE TAPE, the highest first: how many it has.");
        Lawn x = new Lawn();
        x.due("feed(" + TURN_2 + ")", 8).due("end(7)", 8).due("feed(" + Long.MIN_VALUE + ")", 15).due("end(0)", 15);
        x.due("feed(" + Long.MAX_VALUE + ")", 8).due("garden()", -10).due("fault()", 1);
        // "turn 2; " and "bag 199;": the bytes in their order
        x.due("feed(" + TURN_2 + ")", 8).due("feed(" + 0x6261672031393920L + ")", 16)
            .due("feed(" + 0x3b20202020202020L + ")", 24);
        x.due("garden()", 2).due("rule(1)", 2).due("rule(3)", 199);
        // behind what end left
        x.due("feed(" + TURN_2 + ")", 8).due("end(4)", 8).due("feed(" + 0x20333b2020202020L + ")", 12);
        x.due("garden()", 1).due("rule(1)", 3);
    }

    static void endIsBadAboveWhatThereIs() {
        Edges.promise(3, "THE TAPE keeps its first n bytes: how many it had. BAD (n above that, too).");
        Lawn x = new Lawn();
        x.due("end(0)", 0).refusedBeyond(BAD, "end(%)", 0, 0);
        x.due("feed(" + TURN_2 + ")", 8).refusedBeyond(BAD, "end(%)", 0, 8);
        x.due("end(8)", 8).due("count(4)", 8).due("end(7)", 8).due("count(4)", 7).refusedBeyond(BAD, "end(%)", 0, 7);
        x.due("garden()", 1).due("rule(1)", 2).due("end(0)", 0).refused(BAD, "end(1)");
        Lawn full = Lawn.full();
        full.refusedBeyond(BAD, "end(%)", 0, 320).due("end(320)", 320).due("count(4)", 320);
        full.due("end(319)", 320).refused(BAD, "end(320)").due("end(0)", 319).refusedBeyond(BAD, "end(%)", 0, 0);
    }

    static void gardenEmptiesTheTape() {
        Edges.promise(4, "THE TAPE (empty then, by a FAULT, too) tells the garden: how many lines; -10 less the "
            + "place of its FAULT: that which was told stays.");
        Lawn x = Lawn.full();
        x.due("garden()", 4).due("count(4)", 0).due("rule(1)", 3).due("rule(3)", 77).due("garden()", 0)
            .due("rule(1)", 1);
        // no line, one, the most that 320 bytes hold
        x.tell("").due("garden()", 0).tell("turn3;").due("garden()", 1);
        StringBuilder text = new StringBuilder("turn0;bag1;dew0;cord1;high0;climb1;");
        for (int c = 0; c < 36; c++) {
            text.append("sun").append(c).append(" 0;");
        }
        x.tell(text.append(blanks(320 - text.length())).toString());
        x.due("count(4)", 320).due("garden()", 42).due("cell(35, 2)", 0).due("rule(5)", 1);
        // the first place, the last one, the end; all that was told stays
        Lawn full = Lawn.full();
        full.refusedText("#".repeat(320), 0, 1).refusedText(blanks(319) + "9", 319, 2)
            .refusedText(blanks(317) + "bag", 320, 2);
        full.tell("#").due("garden()", -10).due("garden()", 0).due("fault()", 0);
    }

    static void faultIsOfTheLatestGarden() {
        Edges.promise(5, "The FAULT of the latest garden(); 0.");
        Lawn x = new Lawn();
        x.due("fault()", 0);
        String[] texts = {"#", "turn", "turn 4;", "turn 1;turn 1;", "row bbbbbb;".repeat(7), "row xggggg;"};
        for (int fault = 1; fault <= 6; fault++) {
            x.tell(texts[fault - 1]).due("fault()", fault - 1);
            Edges.due("garden() is refused", x.ask("garden()") <= -10 ? 1 : 0, 1);
            x.due("fault()", fault).due("fault()", fault);
        }
        x.tell("turn 1;").due("fault()", 6).due("garden()", 1).due("fault()", 0);
    }

    static void ruleIsBadBeyond6() {
        Edges.promise(6, "0 the socket, 1 turn, 2 climb, 3 bag, 4 empty, 5 cord, 6 dew. BAD.");
        Lawn x = Lawn.told("socket 35;turn 3;climb 4;bag 200;empty 9;cord 99;dew 999;");
        int[] rules = {35, 3, 4, 200, 9, 99, 999};
        for (int what = 0; what < 7; what++) {
            x.due("rule(" + what + ")", rules[what]);
        }
        x.refusedBeyond(BAD, "rule(%)", 0, 6);
    }

    static void cellIsBadBeyond() {
        Edges.promise(7, "Of a CELL: 0 what it is, 1 HEIGHT (0, if it is no grass), 2 its sun, 3 the PICTURE (NONE). "
            + "BAD.");
        Lawn x = Lawn.busy();
        x.due("cell(6, 0)", 1).due("cell(6, 1)", 3).due("cell(6, 2)", 3).due("cell(6, 3)", 3);
        x.due("cell(35, 0)", 0).due("cell(35, 1)", 8).due("cell(35, 2)", 3).due("cell(35, 3)", NONE);
        x.due("cell(8, 0)", 3).due("cell(8, 1)", 0).due("cell(8, 2)", 7).due("cell(8, 3)", NONE);
        x.due("cell(2, 1)", 0).due("cell(4, 1)", 0).due("cell(12, 2)", 0);
        x.refusedBeyond(BAD, "cell(0, %)", 0, 3).refusedBeyond(BAD, "cell(35, %)", 0, 3);
        x.refusedBeyond(BAD, "cell(%, 0)", 0, 35).refusedBeyond(BAD, "cell(%, 3)", 0, 35);
        x.refused(BAD, "cell(36, 4)", "cell(-1, -1)", "cell(MIN, MAX)");
    }

    static void putChangesAnotherOneAlone() {
        Edges.promise(8, "A CELL becomes v (0 to 4; HEIGHT 0, no PICTURE, if it was another one): what it was.");
        Lawn x = Lawn.busy();
        // as it was: HEIGHT and PICTURE stay
        x.due("put(6, 1)", 1).due("cell(6, 1)", 3).due("cell(6, 3)", 3);
        x.due("put(35, 0)", 0).due("cell(35, 1)", 8).due("cell(35, 2)", 3);
        // another one, grass too
        x.due("put(6, 0)", 1).due("cell(6, 1)", 0).due("cell(6, 3)", NONE).due("cell(6, 0)", 0);
        x.due("put(35, 1)", 0).due("cell(35, 1)", 0).due("cell(35, 2)", 3).due("count(2)", 7);
        x.due("put(0, 4)", 0).due("put(0, 0)", 4).due("cell(0, 1)", 0);
    }

    static void putNeverBarsTheSocket() {
        Edges.promise(8, "BAD; STATE: the socket would be barred.");
        Lawn x = Lawn.busy();
        x.refusedBeyond(BAD, "put(%, 0)", 0, 35).refusedBeyond(BAD, "put(%, 4)", 0, 35);
        x.refusedBeyond(BAD, "put(0, %)", 0, 4).refusedBeyond(BAD, "put(35, %)", 0, 4);
        x.refusedBeyond(BAD, "put(7, %)", 0, 4).refusedBeyond(BAD, "put(%, 2)", 0, 35);
        x.refused(STATE, "put(7, 2)").due("cell(7, 0)", 1);
        x.due("put(7, 1)", 1).due("put(7, 3)", 1).due("put(7, 4)", 3).refused(STATE, "put(7, 2)").due("put(7, 0)", 4);
        x.due("put(6, 2)", 1).due("put(8, 2)", 3).due("put(0, 2)", 0).due("count(1)", 5);
        for (int socket : new int[] {0, 35}) {
            Lawn at = Lawn.told("socket " + socket + ";");
            at.refused(STATE, "put(" + socket + ", 2)").due("put(" + (35 - socket) + ", 2)", 0);
        }
    }
}
