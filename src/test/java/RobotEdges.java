/** A ROBOT, its chances, and promises 25 to 29: a test for each sentence with a boundary. */
public final class RobotEdges {
    private static final int BAD = Edges.BAD, STATE = Edges.STATE, NONE = Edges.NONE;
    private static final int[] TURNS = {1, 3, 2};
    /** Where a robot comes late to its last CELL, found by trying: behind 53 STEPS. */
    private static final String LATE = "row gggxgx;row gggggg;row gggggg;row gggggx;row xggggg;row xggxgg;";
    private static final String STONES = "row gggggg;row gggggg;row xggggg;row gggggx;row gggggg;row ggggxg;";

    public static void main(String[] args) {
        Edges.run(RobotEdges.class);
    }

    /** The text's rows as 36 letters. */
    private static String cells(String rows) {
        return rows.replaceAll("row |;", "");
    }

    private static int ahead(String cells, int c, int way) {
        int row = c / 6 + (way == 0 ? -1 : way == 2 ? 1 : 0);
        int column = c % 6 + (way == 1 ? 1 : way == 3 ? -1 : 0);
        boolean isInside = row >= 0 && row < 6 && column >= 0 && column < 6;
        return isInside && cells.charAt(6 * row + column) != 'x' ? 6 * row + column : -1;
    }

    /** A robot by rows and columns, its seed a long that is cut to an int: what robot answers to 0 .. 5. */
    private static long[] gone(String cells, int c, int way, int rule, int seed, int n) {
        long strikes = 0;
        long been = 1L << c;
        long drawn = seed;
        for (int i = 0; i < n; i++) {
            int next = ahead(cells, c, way);
            if (next >= 0) {
                c = next;
                been |= 1L << c;
                continue;
            }
            strikes++;
            if (rule == 3) {
                drawn = (drawn * 1103515245L + 12345L) % (1L << 32);
                way = (int) Math.floorMod(Math.floorDiv(drawn, 65536L), 4L);
            } else {
                way = (way + TURNS[rule]) % 4;
            }
        }
        return new long[] {c, way, Long.bitCount(been), been, strikes, (int) drawn};
    }

    private static void asModel(Lawn x, String cells, int c, int way, int rule, int seed, int n) {
        long[] dues = gone(cells, c, way, rule, seed, n);
        for (int what = 0; what < 6; what++) {
            x.due("robot(" + c + ", " + way + ", " + rule + ", " + seed + ", " + n + ", " + what + ")", dues[what]);
        }
    }

    // ---- the robot, what is drawn, by chance.

    static void aStepTurnsOrGoes() {
        Edges.term("A ROBOT begins in a CELL, looking one WAY; a STEP: if the next CELL is barred, it turns instead, "
            + "by RULE: 0 right, 1 left, 2 back, 3 a DRAWN WAY (of all four); else it goes there.");
        // shut in it turns for ever
        Lawn shut = Lawn.told(Lawn.rows("bbbbbb", "bxbbbb", "xbxbbb", "bxbbbb"));
        for (int way = 0; way < 4; way++) {
            for (int rule = 0; rule < 3; rule++) {
                for (int n = 0; n <= 5; n++) {
                    String call = "robot(13, " + way + ", " + rule + ", 7, " + n + ", ";
                    shut.due(call + "0)", 13).due(call + "1)", (way + n * TURNS[rule]) % 4).due(call + "4)", n);
                }
            }
        }
        shut.due("robot(13, 2, 0, 7, 999, 2)", 1).due("robot(13, 2, 1, 7, 999, 4)", 999)
            .due("robot(13, 2, 2, 7, 999, 5)", 7);
        // a STEP goes or turns, not both
        Lawn x = new Lawn();
        x.due("robot(4, 1, 0, 0, 1, 0)", 5).due("robot(4, 1, 0, 0, 1, 4)", 0).due("robot(4, 1, 0, 0, 2, 0)", 5);
        x.due("robot(4, 1, 0, 0, 2, 1)", 2).due("robot(4, 1, 0, 0, 2, 4)", 1).due("robot(4, 1, 0, 0, 3, 0)", 11);
        x.due("robot(4, 1, 0, 0, 3, 4)", 1).due("robot(4, 1, 2, 0, 3, 0)", 4).due("robot(4, 1, 1, 0, 3, 1)", 3);
        // of all four: each is drawn by some seed, the one that it looks too
        boolean[] drawn = new boolean[4];
        for (int seed = 0; seed < 16; seed++) {
            int way = (int) gone(cells(STONES), 0, 0, 3, seed, 1)[1];
            drawn[way] = true;
            x.due("robot(0, 0, 3, " + seed + ", 1, 1)", way);
        }
        Edges.due("all four are drawn", drawn[0] && drawn[1] && drawn[2] && drawn[3] ? 1 : 0, 1);
    }

    static void theSeedIsAnIntThatWrapsAround() {
        Edges.term("DRAWN: the seed (an int) becomes seed times 1103515245 and 12345; bits 16, 17 of it.");
        Lawn x = Lawn.told("row gggggg;row gggggg;row gggggg;row gggggg;row gggggg;row gggggg;");
        // bits 16, 17 of 0x00003039, 0x41C67EA6, 0x838CCD13, 0xBE39E1CC are 0, 2, 0, 1
        x.due("robot(0, 0, 3, 0, 1, 5)", 12345).due("robot(0, 0, 3, 0, 1, 1)", 0);
        x.due("robot(0, 0, 3, 1, 1, 5)", 1103527590).due("robot(0, 0, 3, 1, 1, 1)", 2);
        x.due("robot(0, 0, 3, 2, 1, 5)", 2207042835L - 4294967296L).due("robot(0, 0, 3, 2, 1, 1)", 0);
        x.due("robot(0, 0, 3, -1, 1, 5)", -1103502900).due("robot(0, 0, 3, -1, 1, 1)", 1);
        String cells = "g".repeat(36);
        for (int seed : new int[] {Integer.MIN_VALUE, Integer.MIN_VALUE + 1, -65536, -2, -1, 0, 1, 2, 65535, 65536,
            Integer.MAX_VALUE}) {
            for (int n : new int[] {0, 1, 2, 40, 999}) {
                asModel(x, cells, 0, 0, 3, seed, n);
            }
        }
        // no RULE but 3 draws
        for (int rule = 0; rule < 3; rule++) {
            x.due("robot(0, 0, " + rule + ", MIN, 99, 5)", Integer.MIN_VALUE)
                .due("robot(0, 0, " + rule + ", MAX, 99, 5)", Integer.MAX_VALUE);
        }
    }

    static void byChanceEachWayIsAsLikely() {
        Edges.term("BY CHANCE: RULE 3, each WAY as likely.");
        // a cross: one of four ways behind a strike, and then a STEP
        for (int look = 0; look < 4; look++) {
            Lawn x = Lawn.told(Lawn.rows("bbbbbb", "bbxbbb", "bbbbbb"));
            int[] beside = {8, 15, 20, 13};
            x.due("put(8, 3)", 2).due("put(" + beside[look] + ", 2)", 3);
            for (int way = 0; way < 4; way++) {
                String call = "odds(14, " + look + ", " + beside[way] + ", 2, ";
                x.due(call + "0)", way == look ? 0 : 1).due(call + "1)", way == look ? 1 : 4);
            }
        }
    }

    static void fractionsAreInLowestTerms() {
        Edges.term("Fractions are in lowest terms, told as two numbers, first the numerator, then the denominator, "
            + "which is above 0 (0 is 0 by 1).");
        Lawn x = Lawn.told("row gggggg;row gggggg;row gggggg;row gggggg;row gggggg;row gggggg;");
        // 0 by 1 and 1 by 1, however many STEPS; a half is in quarters and sixteenths 1 by 2
        for (int n = 0; n <= 20; n++) {
            x.due("odds(0, 1, 7, " + n + ", 0)", 0).due("odds(0, 1, 7, " + n + ", 1)", 1);
            x.due("odds(0, 1, 0, " + n + ", 0)", 1).due("odds(0, 1, 0, " + n + ", 1)", 1);
            x.due("odds(0, 1, 1, " + n + ", 0)", n == 0 ? 0 : 1).due("odds(0, 1, 1, " + n + ", 1)", 1);
        }
        String cells = "g".repeat(36);
        for (int goal : new int[] {1, 6, 35}) {
            Lawn y = new Lawn();
            for (int n = 0; n <= 20; n++) {
                asWeighed(y, cells, 0, 0, goal, n);
            }
        }
    }

    /** In how many of 4 to the power of n equal parts it has been in the goal. */
    private static long parts(String cells, int c, int way, int goal, int n, long[][] known) {
        if (c == goal) {
            return 1L << 2 * n;
        }
        if (n == 0) {
            return 0;
        }
        if (known[n][c * 4 + way] < 0) {
            int next = ahead(cells, c, way);
            long sum = 0;
            for (int drawn = 0; drawn < 4; drawn++) {
                sum += next >= 0 ? parts(cells, next, way, goal, n - 1, known) : parts(cells, c, drawn, goal, n - 1,
                    known);
            }
            known[n][c * 4 + way] = sum;
        }
        return known[n][c * 4 + way];
    }

    private static void asWeighed(Lawn x, String cells, int c, int way, int goal, int n) {
        long[][] known = new long[21][144];
        for (long[] row : known) {
            java.util.Arrays.fill(row, -1);
        }
        long numerator = parts(cells, c, way, goal, n, known);
        long denominator = 1L << 2 * n;
        long a = numerator;
        long b = denominator;
        while (b != 0) {
            long rest = a % b;
            a = b;
            b = rest;
        }
        String call = "odds(" + c + ", " + way + ", " + goal + ", " + n + ", ";
        x.due(call + "0)", numerator / a).due(call + "1)", denominator / a);
    }

    // ---- promises 25 to 29.

    /** What all five refuse: a CELL, a WAY, a RULE that is none; and STATE: the CELL is barred. */
    private static void refusesAsRobots(String call, String[] rest) {
        Lawn x = Lawn.busy();
        for (String r : rest) {
            x.refusedBeyond(BAD, call + "(%, 0" + r, 0, 35).refusedBeyond(BAD, call + "(0, %" + r, 0, 3);
            x.refused(STATE, call + "(2, 0" + r, call + "(30, 3" + r)
                .refused(BAD, call + "(2, 4" + r, call + "(30, -1" + r);
            x.questions(call + "(0, 0" + r, call + "(35, 3" + r, call + "(0, 3" + r, call + "(35, 0" + r);
        }
    }

    static void robotGoes0To999Steps() {
        Edges.promise(25, "Behind n STEPS (0 to 999) of a ROBOT: 0 the CELL, 1 the WAY it looks, 2 CELLS where it "
            + "has been, 3 these (bits), 4 how often it struck, 5 the seed then.");
        Lawn x = Lawn.told(STONES);
        x.refusedBeyond(BAD, "robot(0, 1, 0, 5, %, 0)", 0, 999).refusedBeyond(BAD, "robot(0, 1, 3, 5, %, 3)", 0, 999);
        for (int rule = 0; rule < 4; rule++) {
            for (int n : new int[] {0, 1, 998, 999}) {
                asModel(x, cells(STONES), 0, 1, rule, 5, n);
                asModel(x, cells(STONES), 35, 2, rule, -5, n);
            }
        }
        x.due("robot(0, 1, 0, 5, 0, 0)", 0).due("robot(0, 1, 0, 5, 0, 1)", 1).due("robot(0, 1, 0, 5, 0, 2)", 1);
        x.due("robot(35, 1, 0, 5, 0, 3)", 1L << 35).due("robot(0, 1, 0, 5, 0, 4)", 0).due("robot(0, 1, 0, 5, 0, 5)", 5);
        // CELLS that are no grass count as well
        Lawn.told(Lawn.rows("bglhbb")).due("robot(0, 1, 0, 0, 5, 2)", 6).due("robot(0, 1, 0, 0, 5, 3)", 63);
    }

    static void robotIsBadOrState() {
        Edges.promise(25, "BAD; STATE: the CELL is barred.");
        refusesAsRobots("robot", new String[] {", 0, 0, 0, 0)", ", 3, -9, 999, 4)"});
        Lawn x = Lawn.busy();
        x.refusedBeyond(BAD, "robot(0, 0, %, 0, 0, 0)", 0, 3).refusedBeyond(BAD, "robot(35, 0, %, 0, 9, 1)", 0, 3);
        x.refusedBeyond(BAD, "robot(0, 0, 0, 0, 0, %)", 0, 5).refusedBeyond(BAD, "robot(35, 0, 3, 0, 9, %)", 0, 5);
        x.refusedBeyond(BAD, "robot(0, 0, 0, 0, %, 0)", 0, 999).refusedBeyond(BAD, "robot(2, 0, 0, 0, %, 0)", 0, 999);
        x.refused(STATE, "robot(2, 0, 3, MIN, 999, 5)").due("put(2, 3)", 2).due("robot(2, 0, 3, 0, 0, 0)", 2);
    }

    /** Seeds by which it comes to one CELL more by just that STEP: how many it has been in by then. */
    private static void untilAtStep(int step, boolean isTaken) {
        String cells = cells(STONES);
        int found = 0;
        for (int seed = 0; seed < 9000 && found < 5; seed++) {
            int been = (int) gone(cells, 0, 1, 3, seed, step)[2];
            if (gone(cells, 0, 1, 3, seed, step - 1)[2] < been) {
                found++;
                Lawn x = Lawn.told(STONES).due("until(0, 1, 3, " + seed + ", " + been + ", 33)", isTaken ? step : NONE);
                x.questions("until(0, 1, 3, " + seed + ", " + been + ", 33)");
                Edges.due("it comes there sooner",
                    x.ask("until(0, 1, 3, " + seed + ", " + (been - 1) + ", 33)") < step ? 1 : 0, 1);
            }
        }
        Edges.due("such seeds are found", found, 5);
    }

    static void untilIsWithin999Steps() {
        Edges.promise(26, "STEPS (0 to 999) behind which it has first been in the part a by b of all CELLS of grass, "
            + "or more (a 0 to b, b 1 to 99).");
        untilAtStep(999, true);
        untilAtStep(998, true);
        untilAtStep(1000, false);
        Lawn x = Lawn.busy();
        x.refusedBeyond(BAD, "until(0, 0, 0, 0, %, 99)", 0, 99).refusedBeyond(BAD, "until(0, 0, 0, 0, %, 1)", 0, 1);
        x.refusedBeyond(BAD, "until(0, 0, 0, 0, 0, %)", 1, 99).refusedBeyond(BAD, "until(0, 0, 0, 0, 1, %)", 1, 99);
        x.refused(BAD, "until(0, 0, 0, 0, 3, 2)", "until(0, 0, 0, 0, 100, 100)", "until(0, 0, 0, 0, 0, 0)",
            "until(0, 0, 0, 0, 99, 98)");
        x.questions("until(0, 0, 0, 0, 0, 1)", "until(0, 0, 0, 0, 99, 99)", "until(0, 0, 0, 0, 1, 99)",
            "until(0, 0, 0, 0, 2, 2)");
        // the part, or more: of 36 CELLS a quarter is 9, of 9 by 35 it is 10
        Lawn lawn = new Lawn().due("until(0, 1, 0, 0, 0, 1)", 0).due("until(0, 1, 0, 0, 0, 99)", 0)
            .due("until(0, 1, 0, 0, 1, 36)", 0);
        lawn.due("until(0, 1, 0, 0, 1, 35)", 1).due("until(0, 1, 0, 0, 2, 36)", 1).due("until(0, 1, 0, 0, 1, 6)", 5);
        lawn.due("until(0, 1, 0, 0, 1, 4)", 9).due("until(0, 1, 0, 0, 9, 35)", 10).due("until(0, 1, 0, 0, 20, 36)", 22);
        lawn.due("until(0, 1, 0, 0, 21, 36)", NONE).due("until(0, 1, 0, 0, 99, 99)", NONE)
            .due("until(0, 1, 2, 0, 6, 36)", 5);
        lawn.due("until(0, 1, 2, 0, 7, 36)", NONE);
        // all of one; grass alone counts
        Lawn.told(Lawn.rows("gbbbbb")).due("until(0, 1, 0, 0, 1, 1)", 0).due("until(0, 1, 0, 0, 99, 99)", 0);
        Lawn.told(Lawn.rows("bbbbbl")).due("until(0, 1, 0, 0, 1, 99)", 5).due("until(0, 1, 0, 0, 0, 1)", 0);
        Lawn.told(Lawn.rows("bgbbbl")).due("until(0, 1, 0, 0, 1, 2)", 1).due("until(0, 1, 0, 0, 50, 99)", 5);
    }

    static void untilIsBadStateOrNone() {
        Edges.promise(26, "BAD; STATE likewise; NONE.");
        refusesAsRobots("until", new String[] {", 0, 0, 0, 1)", ", 3, 7, 99, 99)"});
        Lawn x = Lawn.busy();
        x.refusedBeyond(BAD, "until(0, 0, %, 0, 0, 1)", 0, 3).refusedBeyond(BAD, "until(35, 0, %, 0, 9, 9)", 0, 3);
        x.refusedBeyond(BAD, "until(2, 0, 0, 0, %, 9)", 0, 9).refusedBeyond(BAD, "until(2, 0, 0, 0, 0, %)", 1, 99);
        x.refused(NONE, "until(0, 1, 0, 0, 1, 1)", "until(0, 1, 2, 0, 99, 99)")
            .refused(STATE, "until(2, 1, 0, 0, 0, 1)");
    }

    static void neverIsOfRules0To2() {
        Edges.promise(27, "CELLS of grass where a ROBOT of RULE 0, 1 or 2 is never (bits). BAD; STATE likewise.");
        refusesAsRobots("never", new String[] {", 0)", ", 2)"});
        Lawn x = Lawn.busy();
        x.refusedBeyond(BAD, "never(0, 0, %)", 0, 2).refusedBeyond(BAD, "never(2, 0, %)", 0, 2)
            .refused(STATE, "never(2, 0, 2)");
        for (String rows : new String[] {LATE, STONES, Lawn.rows("gxgggg", "lbbbbg")}) {
            for (int c = 0; c < 36; c++) {
                if (cells(rows).charAt(c) != 'x') {
                    neverAsModel(Lawn.told(rows), cells(rows), c);
                }
            }
        }
        // the last of its CELLS is come to behind 53 STEPS
        Lawn late = Lawn.told(LATE);
        long before = gone(cells(LATE), 13, 1, 1, 0, 52)[3];
        Edges.due("late", Long.bitCount(gone(cells(LATE), 13, 1, 1, 0, 53)[3] & ~before), 1);
        late.due("never(13, 1, 1)",
            ((1L << 36) - 1) & ~Lawn.bits(3, 5, 23, 24, 30, 33) & ~gone(cells(LATE), 13, 1, 1, 0, 53)[3]);
    }

    private static void neverAsModel(Lawn x, String cells, int c) {
        long grass = 0;
        for (int g = 0; g < 36; g++) {
            grass |= "gl".indexOf(cells.charAt(g)) >= 0 ? 1L << g : 0;
        }
        for (int way = 0; way < 4; way++) {
            for (int rule = 0; rule < 3; rule++) {
                x.due("never(" + c + ", " + way + ", " + rule + ")", grass & ~gone(cells, c, way, rule, 0, 2000)[3]);
            }
        }
    }

    static void bestIsTheFirstOfSeveral() {
        Edges.promise(28, "The RULE (0 to 3) by which it has been in the most CELLS of grass behind n STEPS, of "
            + "several the least (what 0), how many (1). BAD; STATE likewise.");
        refusesAsRobots("best", new String[] {", 0, 0, 0)", ", -7, 999, 1)"});
        Lawn x = Lawn.busy();
        x.refusedBeyond(BAD, "best(0, 0, 0, %, 0)", 0, 999).refusedBeyond(BAD, "best(0, 0, 0, 0, %)", 0, 1);
        x.refusedBeyond(BAD, "best(35, 0, 0, %, 1)", 0, 999).refusedBeyond(BAD, "best(35, 0, 0, 999, %)", 0, 1);
        // of four that are the same the first; each RULE is best somewhere
        Lawn lawn = Lawn.told(STONES);
        lawn.due("best(0, 1, 0, 0, 0)", 0).due("best(0, 1, 0, 0, 1)", 1).due("best(0, 1, 0, 5, 0)", 0)
            .due("best(0, 1, 0, 5, 1)", 6);
        boolean[] best = new boolean[4];
        for (int seed = 0; seed < 30; seed++) {
            int n = seed % 3 == 0 ? 999 : 12 + seed;
            int c = seed % 2 == 0 ? 35 : 5;
            int rule = 0;
            for (int other = 1; other < 4; other++) {
                boolean isMore = gone(cells(STONES), c, 1, other, seed, n)[2] > gone(cells(STONES), c, 1, rule, seed,
                    n)[2];
                rule = isMore ? other : rule;
            }
            best[rule] = true;
            lawn.due("best(" + c + ", 1, " + seed + ", " + n + ", 0)", rule);
            lawn.due("best(" + c + ", 1, " + seed + ", " + n + ", 1)", gone(cells(STONES), c, 1, rule, seed, n)[2]);
        }
        Lawn lanes = Lawn.told(Lawn.rows("bggggg", "xxxxxb"));
        lanes.due("best(5, 0, 0, 7, 0)", 1).due("best(5, 0, 0, 7, 1)", 5).due("best(3, 1, 0, 7, 0)", 2)
            .due("best(3, 1, 0, 7, 1)", 5);
        Edges.due("left, right and by chance are best by turns", best[0] && best[1] && best[3] ? 1 : 0, 1);
        // grass alone counts
        Lawn.told(Lawn.rows("bbbbbb")).due("best(0, 1, 0, 999, 0)", 0).due("best(0, 1, 0, 999, 1)", 0);
    }

    static void oddsAreOf0To20Steps() {
        Edges.promise(29, "BY CHANCE: that it has been in a goal (a CELL) behind n STEPS (0 to 20), the beginning "
            + "too: 0, 1. BAD; STATE likewise.");
        refusesAsRobots("odds", new String[] {", 0, 0, 0)", ", 35, 20, 1)"});
        Lawn x = Lawn.busy();
        x.refusedBeyond(BAD, "odds(0, 0, %, 0, 0)", 0, 35).refusedBeyond(BAD, "odds(35, 0, %, 20, 1)", 0, 35);
        x.refusedBeyond(BAD, "odds(0, 0, 0, %, 0)", 0, 20).refusedBeyond(BAD, "odds(35, 3, 1, %, 1)", 0, 20);
        x.refusedBeyond(BAD, "odds(0, 0, 0, 0, %)", 0, 1).refusedBeyond(BAD, "odds(2, 3, 1, 20, %)", 0, 1);
        // the beginning too, whatever comes behind it
        for (int c : new int[] {0, 35}) {
            for (int n : new int[] {0, 1, 20}) {
                new Lawn().due("odds(" + c + ", 1, " + c + ", " + n + ", 0)", 1)
                    .due("odds(" + c + ", 1, " + c + ", " + n + ", 1)", 1);
            }
        }
        for (int n : new int[] {0, 1, 2, 3, 19, 20}) {
            for (int goal : new int[] {0, 5, 17, 35}) {
                asWeighed(Lawn.told(STONES), cells(STONES), 7, 2, goal, n);
                asWeighed(Lawn.told(STONES), cells(STONES), 35, 3, goal, n);
            }
        }
        // what can not be come to: barred, shut in
        Lawn shut = Lawn.told(Lawn.rows("gxbbbb", "xbbbbb"));
        shut.due("odds(0, 1, 1, 20, 0)", 0).due("odds(0, 1, 1, 20, 1)", 1).due("odds(0, 1, 7, 20, 0)", 0)
            .due("odds(0, 1, 7, 20, 1)", 1);
    }
}
