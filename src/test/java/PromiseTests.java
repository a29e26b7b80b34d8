/** Each promise by its number: ordinary inputs, the edges that the document names, wrong inputs; dues by hand. */
public final class PromiseTests {
    private static final int BAD = -1, STATE = -2, FULL = -3, NONE = -4;
    private static final int MIN = Integer.MIN_VALUE, MAX = Integer.MAX_VALUE;
    private static final long ALL = (1L << 36) - 1;
    private static final String BARE_ROWS = "row bbbbbb;row bbbbbb;row bbbbbb;row bbbbbb;row bbbbbb;row bbbbbb;";
    private static int wrong = 0;
    private static int asked = 0;

    private static void due(int promise, String call, long got, long want) {
        asked++;
        if (got != want) {
            wrong++;
            System.out.println("promise " + promise + ": " + call + " answered " + got + ", due is " + want);
        }
    }

    private static void feed(LawnTrees x, String text) {
        x.end(0);
        for (int i = 0; i < text.length(); i += 8) {
            long v = 0;
            for (int k = i; k < i + 8; k++) {
                v = v << 8 | (k < text.length() ? text.charAt(k) : ';');
            }
            x.feed(v);
        }
        x.end(text.length());
    }

    /** A new object with a garden that a text tells. */
    private static LawnTrees told(String text) {
        LawnTrees x = new LawnTrees();
        feed(x, text);
        due(4, "garden() of " + text, x.garden(), text.replaceAll("[^;]", "").length());
        return x;
    }

    /** The text's rows, bare behind those that are given. */
    private static String rows(String... given) {
        StringBuilder text = new StringBuilder();
        for (int row = 0; row < 6; row++) {
            text.append("row ").append(row < given.length ? given[row] : "bbbbbb").append(';');
        }
        return text.toString();
    }

    private static long bits(int... cells) {
        long bits = 0;
        for (int c : cells) {
            bits |= 1L << c;
        }
        return bits;
    }

    /** Moves told as pairs of figures: a way, its steps. */
    private static void moves(LawnTrees x, String pairs) {
        for (int i = 0; i < pairs.length(); i += 2) {
            due(9, "move of " + pairs, x.move(pairs.charAt(i) - '0', pairs.charAt(i + 1) - '0'), i / 2 + 1);
        }
    }

    private static void isAsAtFirst(int promise, LawnTrees x) {
        int[] rules = {0, 1, 2, 30, 2, 20, 0};
        for (int i = 0; i < rules.length; i++) {
            due(promise, "rule(" + i + ")", x.rule(i), rules[i]);
        }
        for (int c = 0; c < 36; c++) {
            due(promise, "cell(" + c + ", 0)", x.cell(c, 0), 0);
            due(promise, "cell(" + c + ", 1)", x.cell(c, 1), 3);
            due(promise, "cell(" + c + ", 2)", x.cell(c, 2), 3);
            due(promise, "cell(" + c + ", 3)", x.cell(c, 3), NONE);
        }
        due(promise, "count(2)", x.count(2), 0);
    }

    private static void newObject() {
        LawnTrees x = new LawnTrees();
        isAsAtFirst(1, x);
        due(1, "fault()", x.fault(), 0);
        due(1, "torn()", x.torn(), 0);
        due(1, "count(3)", x.count(3), 0);
        due(1, "count(4)", x.count(4), 0);
        due(1, "count(5)", x.count(5), NONE);
        due(1, "back(0)", x.back(0), STATE);
        due(1, "back(1)", x.back(1), STATE);
        for (int k = 0; k < 4; k++) {
            due(1, "lay(" + k + ", 0, 0)", x.lay(k, 0, 0), -11);
        }
    }

    private static void feedAndEnd() {
        LawnTrees x = new LawnTrees();
        for (int i = 1; i <= 40; i++) {
            due(2, "feed", x.feed(i), 8 * i);
        }
        due(2, "feed, the 41st", x.feed(0), FULL);
        due(2, "count(4)", x.count(4), 320);
        due(3, "end(321)", x.end(321), BAD);
        due(3, "end(320)", x.end(320), 320);
        due(3, "end(313)", x.end(313), 320);
        due(2, "feed to 321", x.feed(0), FULL);
        due(3, "end(314)", x.end(314), BAD);
        due(3, "end(-1)", x.end(-1), BAD);
        due(3, "end(MIN)", x.end(MIN), BAD);
        due(3, "end(312)", x.end(312), 313);
        due(2, "feed to 320", x.feed(0), 320);
        due(3, "end(0)", x.end(0), 320);
        due(3, "end(1)", x.end(1), BAD);
        due(3, "end(0), again", x.end(0), 0);
        // "turn 3; ", the highest byte first
        due(2, "feed", x.feed(0x7475726e20333b20L), 8);
        due(4, "garden()", x.garden(), 1);
        due(2, "rule(1)", x.rule(1), 3);
        // bytes above 127 are no tokens, and do not spoil those beside them
        due(2, "feed", x.feed(0x20202020202020ffL), 8);
        due(4, "garden()", x.garden(), -17);
        due(5, "fault()", x.fault(), 1);
        // bytes that end() took away are not read again
        x.feed(0x7475726e20333b20L);
        x.end(6);
        due(3, "garden() of what is left", x.garden(), -16);
    }

    private static void refused(String text, int place, int fault) {
        LawnTrees x = told("row ggggll;turn 2;");
        x.move(1, 2);
        feed(x, text);
        due(4, "garden() of \"" + text + "\"", x.garden(), -10 - place);
        due(5, "fault() of \"" + text + "\"", x.fault(), fault);
        due(4, "count(4)", x.count(4), 0);
        due(4, "what was told stays: rule(1)", x.rule(1), 2);
        due(4, "what was told stays: cell(5, 0)", x.cell(5, 0), 1);
        due(4, "what was told stays: moves", x.count(2), 1);
        due(4, "garden() of nothing", x.garden(), 0);
        due(5, "fault()", x.fault(), 0);
        due(4, "rule(1)", x.rule(1), 1);
    }

    private static void faults() {
        refused("turn", 4, 2);
        refused("turn  ", 6, 2);
        refused("turn 2", 6, 2);
        refused("turn 2 2", 7, 2);
        refused("turn 2 2222;", 7, 1);
        refused("turn ;", 5, 2);
        refused("turn turn", 5, 2);
        refused("  ;", 2, 2);
        refused("7;", 0, 2);
        refused("1234;", 0, 1);
        refused("Turn 2;", 0, 1);
        refused("turn\t2;", 4, 1);
        refused("turns 2;", 0, 2);
        refused("tur 2;", 0, 2);
        refused("turn 0002;", 5, 1);
        refused("rowgggggg;", 0, 2);
        refused("row 5;", 4, 2);
        refused("row ggggg;", 4, 3);
        refused("row ggggggg;", 4, 3);
        refused("row gggggz;", 4, 3);
        refused("row gggggg", 10, 2);
        refused("row gggggg gggggg;", 11, 2);
        refused("turn 4;", 5, 3);
        refused("climb 0;", 6, 3);
        refused("climb 5;", 6, 3);
        refused("bag 0;", 4, 3);
        refused("bag 201;", 4, 3);
        refused("empty 10;", 6, 3);
        refused("cord 0;", 5, 3);
        refused("cord 100;", 5, 3);
        refused("dew 1000;", 4, 1);
        refused("high 61;", 5, 3);
        refused("socket 36;", 7, 3);
        refused("sun 36 1;", 4, 3);
        refused("sun 1 10;", 6, 3);
        refused("sun 1;", 5, 2);
        refused("sun 1 1;sun 1 2222;", 12, 4);
        refused("turn 1; turn 1;", 8, 4);
        refused("high 3;high 3;", 7, 4);
        refused(BARE_ROWS + " row", 67, 5);
        refused("row xggggg; ", 12, 6);
        refused("row gxgggg;socket 1;", 20, 6);
        refused("socket 1;row gxgggg;", 20, 6);
        // the first that is met, not the worst
        refused("turn 4 A", 5, 3);
        refused("row xggggg;turn 9;", 16, 3);
    }

    private static void texts() {
        LawnTrees x = told("row glxbhg ; socket 35;turn0;climb   004;bag 200;empty 9;cord 99;dew 999;high 60;"
            + "sun 0 9;sun 35 0;");
        int[] rules = {35, 0, 4, 200, 9, 99, 999};
        for (int i = 0; i < rules.length; i++) {
            due(6, "rule(" + i + ")", x.rule(i), rules[i]);
        }
        for (int c = 0; c < 36; c++) {
            int kind = c < 6 ? new int[] {0, 1, 2, 3, 4, 0}[c] : 0;
            due(7, "cell(" + c + ", 0)", x.cell(c, 0), kind);
            due(7, "cell(" + c + ", 1)", x.cell(c, 1), kind < 2 ? 60 : 0);
            due(7, "cell(" + c + ", 2)", x.cell(c, 2), c == 0 ? 9 : c == 35 ? 0 : 3);
            due(7, "cell(" + c + ", 3)", x.cell(c, 3), NONE);
        }
        for (int what : new int[] {MIN, -1, 7, 8, MAX}) {
            due(6, "rule(" + what + ")", x.rule(what), BAD);
        }
        for (int c : new int[] {MIN, -1, 36, MAX}) {
            due(7, "cell(" + c + ", 0)", x.cell(c, 0), BAD);
        }
        for (int what : new int[] {MIN, -1, 4, MAX}) {
            due(7, "cell(0, " + what + ")", x.cell(0, what), BAD);
        }
        due(4, "the lowest bounds", told("socket 0;turn 0;climb 1;bag 1;empty 0;cord 1;dew 0;high 0;sun 0 0;").rule(3), 1);
        isStayedAndGone();
    }

    /** What a text that is taken leaves (IMAGES, SHEETS), and what it ends (MOVES, PICTURES, all that was told). */
    private static void isStayedAndGone() {
        LawnTrees x = told("row ggggll;turn 2;dew 5;sun 3 7;");
        moves(x, "12");
        due(13, "mow(20)", x.mow(20), 2);
        due(34, "keep(1)", x.keep(1), 0);
        x.sheet(0, 1, 7);
        feed(x, "");
        due(4, "garden()", x.garden(), 0);
        isAsAtFirst(4, x);
        due(4, "count(3)", x.count(3), 1);
        due(4, "count(5)", x.count(5), 7);
        due(35, "back(1)", x.back(1), 1);
        due(35, "cell(1, 3)", x.cell(1, 3), 1);
        due(35, "cell(5, 0)", x.cell(5, 0), 1);
        due(35, "cell(3, 2), which is not kept", x.cell(3, 2), 3);
        due(35, "rule(1), which is not kept", x.rule(1), 1);
    }

    private static void puts() {
        LawnTrees x = told("socket 7;");
        moves(x, "12");
        x.mow(0);
        due(8, "put(8, 0), as it is", x.put(8, 0), 0);
        due(8, "cell(8, 3) stays", x.cell(8, 3), 1);
        due(8, "put(10, 0), as it is", x.put(10, 0), 0);
        due(8, "cell(10, 1) stays", x.cell(10, 1), 3);
        due(8, "put(8, 1)", x.put(8, 1), 0);
        due(8, "cell(8, 3)", x.cell(8, 3), NONE);
        due(8, "put(10, 1)", x.put(10, 1), 0);
        due(8, "cell(10, 1)", x.cell(10, 1), 0);
        for (int v = 0; v < 5; v++) {
            due(8, "put(20, " + v + ")", x.put(20, v), Math.max(0, v - 1));
            due(8, "cell(20, 0)", x.cell(20, 0), v);
        }
        due(8, "put(7, 2)", x.put(7, 2), STATE);
        due(8, "put(7, 3)", x.put(7, 3), 0);
        due(8, "put(7, 4)", x.put(7, 4), 3);
        due(8, "put(7, 5)", x.put(7, 5), BAD);
        due(8, "put(7, -1)", x.put(7, -1), BAD);
        due(8, "put(36, 2)", x.put(36, 2), BAD);
        due(8, "put(-1, 2)", x.put(-1, 2), BAD);
        due(8, "cell(20, 2) stays", x.cell(20, 2), 3);
    }

    private static void moveRow() {
        LawnTrees x = new LawnTrees();
        for (int i = 0; i < 24; i++) {
            due(9, "move", x.move(i % 4, i % 5 + 1), i + 1);
        }
        due(9, "move, the 25th", x.move(0, 1), FULL);
        due(9, "move(4, 1), the 25th", x.move(4, 1), BAD);
        for (int i = 0; i < 24; i++) {
            due(11, "moved(" + i + ", 0)", x.moved(i, 0), i % 4);
            due(11, "moved(" + i + ", 1)", x.moved(i, 1), i % 5 + 1);
        }
        due(11, "moved(24, 0)", x.moved(24, 0), BAD);
        due(11, "moved(-1, 0)", x.moved(-1, 0), BAD);
        due(11, "moved(0, 2)", x.moved(0, 2), BAD);
        due(11, "moved(0, -1)", x.moved(0, -1), BAD);
        due(10, "clear()", x.clear(), 24);
        due(10, "clear(), again", x.clear(), 0);
        due(10, "moved(0, 0)", x.moved(0, 0), BAD);
        due(10, "run(0, 2)", x.run(0, 2), 0);
        due(9, "move(-1, 1)", x.move(-1, 1), BAD);
        due(9, "move(4, 1)", x.move(4, 1), BAD);
        due(9, "move(0, 0)", x.move(0, 0), BAD);
        due(9, "move(0, 6)", x.move(0, 6), BAD);
        due(9, "move(MAX, MAX)", x.move(MAX, MAX), BAD);
        due(9, "move(3, 5)", x.move(3, 5), 1);
    }

    private static void runs(LawnTrees x, int minute, int... dues) {
        for (int what = 0; what < 10; what++) {
            due(12, "run(" + minute + ", " + what + ")", x.run(minute, what), dues[what]);
        }
    }

    private static void walks() {
        LawnTrees x = told("row bglhgx;row gggggg;turn 2;climb 3;bag 5;empty 4;dew 10;");
        moves(x, "142132011115");
        x.move(2, 1);
        runs(x, 0, 26, 2, 10, 1, 1, 3, 4, 5, 4, 2);
        runs(x, 10, 30, 2, 10, 1, 2, 0, 4, 5, 0, 5);
        // the first grass is met behind 3 minutes
        due(16, "begin()", x.begin(), 7);
        due(12, "run(7, 8)", x.run(7, 8), 0);
        due(12, "run(6, 8)", x.run(6, 8), 1);
        due(17, "need(0)", x.need(0), 9);
        due(17, "need(10)", x.need(10), 12);
        for (int minute : new int[] {MIN, -1, 1000, MAX}) {
            due(12, "run(" + minute + ", 0)", x.run(minute, 0), BAD);
            due(13, "mow(" + minute + ")", x.mow(minute), BAD);
            due(17, "need(" + minute + ")", x.need(minute), BAD);
        }
        due(12, "run(0, -1)", x.run(0, -1), BAD);
        due(12, "run(0, 10)", x.run(0, 10), BAD);
        due(12, "run changes nothing", x.cell(4, 1), 3);
        due(13, "mow(10)", x.mow(10), 2);
        due(13, "cell(1, 1)", x.cell(1, 1), 0);
        due(13, "cell(1, 3)", x.cell(1, 3), 1);
        due(13, "cell(4, 3)", x.cell(4, 3), 1);
        due(13, "cell(2, 3), left", x.cell(2, 3), NONE);
        due(13, "cell(2, 1), left", x.cell(2, 1), 3);
        due(13, "MOVES stay", x.count(2), 7);
        // cut grass takes no room: the second time the bag is free for the slope behind the heap
        due(13, "mow(10), again", x.mow(10), 2);
        due(13, "cell(2, 3)", x.cell(2, 3), 1);
        due(13, "cell(10, 3)", x.cell(10, 3), 2);
        due(13, "mow(999)", x.mow(999), 1);
        quarters();
    }

    private static void quarters() {
        LawnTrees x = told("socket 14;turn 3;high 0;");
        moves(x, "2101312111");
        due(12, "quarters", x.run(0, 7), 2 + 2 + 1 + 1 + 1);
        due(12, "minutes", x.run(0, 0), 21 + 5);
        due(12, "no grass with a height is met", x.run(0, 1) + x.run(0, 8) + x.run(0, 9), 0);
        // a slope takes longer to the north alone
        x = told("row llllll;row llllll;turn 0;climb 4;socket 0;");
        moves(x, "112131010121");
        due(12, "minutes", x.run(0, 0), 1 + 1 + 1 + 4);
        due(12, "stops beyond the garden", x.run(0, 3), 1);
        due(12, "the steps that went", x.run(0, 2), 4);
        // grass of 1 is met, and a heap takes a bag with 1 in it
        x = told("row ghhggg;high 1;empty 9;turn 0;");
        moves(x, "133112");
        runs(x, 0, 6 + 9, 2, 6, 0, 1, 1, 4, 1 + 2 + 2, 0, 0);
        // the quarters ahead of a step that is barred are turned, those behind are not
        x = told("turn 1;");
        moves(x, "3122");
        runs(x, 0, 1, 0, 0, 1, 0, 0, 0, 1, 0, 0);
    }

    private static void cords() {
        LawnTrees x = told("cord 4;");
        moves(x, "122131012101");
        int[] lengths = {0, 1, 2, 3, 4, 5, 4, 5};
        int[] crossings = {0, 0, 0, 0, 0, 1, 1, 2};
        int[] longest = {0, 1, 2, 3, 4, 5, 5, 5};
        long[] lies = {1, 3, 7, 263, 391, 391, 391, 391};
        for (int s = 0; s < 8; s++) {
            due(14, "cord(" + s + ", 0)", x.cord(s, 0), lengths[s]);
            due(14, "cord(" + s + ", 1)", x.cord(s, 1), lies[s]);
            due(14, "cord(" + s + ", 2)", x.cord(s, 2), crossings[s]);
            due(14, "cord(" + s + ", 3)", x.cord(s, 3), longest[s]);
        }
        due(15, "trips(0)", x.trips(0), 5);
        due(15, "trips(1)", x.trips(1), 5);
        for (int s : new int[] {MIN, -1, 8, MAX}) {
            due(14, "cord(" + s + ", 0)", x.cord(s, 0), BAD);
        }
        due(14, "cord(0, 4)", x.cord(0, 4), BAD);
        due(14, "cord(0, -1)", x.cord(0, -1), BAD);
        due(15, "trips(2)", x.trips(2), BAD);
        due(15, "trips(-1)", x.trips(-1), BAD);
        // drawn out and in again it crosses nothing, and is as long as allowed
        x = told("row gggggx;cord 4;");
        moves(x, "143414");
        due(14, "cord(4, 0)", x.cord(4, 0), 4);
        due(14, "cord(8, 0)", x.cord(8, 0), 0);
        due(14, "cord(8, 1)", x.cord(8, 1), 1);
        due(14, "cord(8, 3)", x.cord(8, 3), 4);
        due(15, "trips(0)", x.trips(0), NONE);
        due(15, "trips(1)", x.trips(1), NONE);
        x.move(1, 1);
        due(14, "cord(12, 0)", x.cord(12, 0), 4);
        due(14, "a step that is barred does not go", x.cord(13, 0), BAD);
        due(15, "trips(1)", told("cord 99;").trips(1), NONE);
        longCords();
    }

    private static void longCords() {
        // six times round by 24 MOVES of 5: 120 steps
        LawnTrees x = told("cord 99;");
        moves(x, "152535051525350515253505152535051525350515253505");
        due(14, "cord(120, 0)", x.cord(120, 0), 120);
        due(14, "cord(120, 2)", x.cord(120, 2), 101);
        due(14, "cord(19, 2)", x.cord(19, 2), 0);
        due(14, "cord(20, 2)", x.cord(20, 2), 1);
        due(14, "cord(121, 0)", x.cord(121, 0), BAD);
        due(15, "trips(0)", x.trips(0), 20);
        due(15, "trips(1)", x.trips(1), 100);
        x = told("cord 1;");
        moves(x, "113111");
        due(15, "trips(1) of a cord of 1", x.trips(1), NONE);
        x.move(1, 1);
        due(15, "trips(1) of a cord of 1", x.trips(1), 4);
        due(15, "trips(0)", x.trips(0), NONE);
    }

    private static void beginsAndNeeds() {
        LawnTrees x = told(BARE_ROWS + "dew 999;");
        due(16, "begin() without moves", x.begin(), 0);
        due(17, "need(0) without moves", x.need(0), 1);
        moves(x, "12");
        due(16, "begin() without grass", x.begin(), 0);
        x = told("dew 999;turn 0;");
        moves(x, "11");
        due(16, "begin()", x.begin(), 998);
        x = told("dew 1;");
        moves(x, "11");
        due(16, "begin()", x.begin(), 0);
        x = told("high 60;bag 200;");
        moves(x, "15213521152135");
        due(17, "need(0)", x.need(0), NONE);
        due(12, "run(0, 5)", x.run(0, 5), 180);
        x.clear();
        moves(x, "152135211421");
        due(17, "need(0) of 17 cells", x.need(0), NONE);
        x.clear();
        moves(x, "1521352114");
        due(17, "need(0) of 16 cells", x.need(0), 960);
    }

    private static void leastWays() {
        LawnTrees x = told(rows("bbgbbb"));
        due(18, "least(0)", x.least(0), 3);
        due(18, "least(1)", x.least(1), 2);
        due(18, "least(2)", x.least(2), 1);
        due(18, "least(10)", x.least(10), 1);
        due(18, "least(11)", x.least(11), 1);
        for (int what : new int[] {MIN, -1, 3, 9, 12, MAX}) {
            due(18, "least(" + what + ")", x.least(what), BAD);
        }
        due(21, "adopt()", x.adopt(), 1);
        due(21, "moved(0, 0)", x.moved(0, 0), 1);
        due(21, "moved(0, 1)", x.moved(0, 1), 2);
        // without minutes for turns two ways are least: the first by its steps
        x = told(rows("bbbbbb", "bgbbbb") + "turn 0;socket 14;");
        due(18, "least(10)", x.least(10), 0);
        due(18, "least(11)", x.least(11), 3);
        due(18, "least(0)", x.least(0), 2);
        due(18, "least(2)", x.least(2), 1);
        // a slope in the way north: round it, if that is less
        x = told(rows("bbbbbb", "gbbbbb", "lbbbbb", "bbbbbb") + "turn 0;climb 4;socket 18;");
        due(18, "least(0), the slope from the north", x.least(0), 4);
        due(18, "least(10)", x.least(10), 1);
        grassOfNoneAndMany();
        trees();
        treesOnTheSide();
        adoptions();
    }

    private static void treesOnTheSide() {
        LawnTrees x = told(rows("bxgbbb", "bxbbbb"));
        due(18, "least(0) round two", x.least(0), 10);
        due(19, "tree(1), open on two sides", x.tree(1), 7);
        due(19, "tree(7), open on two sides", x.tree(7), 2);
        due(20, "dearest(0)", x.dearest(0), 1);
        due(20, "dearest(1)", x.dearest(1), 7);
        x = told(rows("xgbbbb") + "socket 6;");
        due(18, "least(0)", x.least(0), 4);
        due(20, "dearest(0), the first cell", x.dearest(0), 0);
        due(20, "dearest(1), the first cell", x.dearest(1), 1);
        due(19, "tree(0)", x.tree(0), 1);
        due(8, "put(6, 0)", x.put(6, 0), 3);
        due(18, "least(0), the socket's cell being seen", x.least(0), 4);
        // the farther end of a row last
        x = told(rows("bbggbg") + "socket 2;");
        due(18, "least(0)", x.least(0), 4);
        due(18, "least(1)", x.least(1), 3);
    }

    private static void grassOfNoneAndMany() {
        LawnTrees x = told(BARE_ROWS);
        due(18, "least(0) without grass", x.least(0), 0);
        due(18, "least(1) without grass", x.least(1), 0);
        due(18, "least(10) without grass", x.least(10), BAD);
        due(21, "adopt() without grass", x.adopt(), 0);
        x = told(rows("gggggg", "gbbbbb"));
        due(18, "least(0) of 7", x.least(0), 12);
        due(18, "least(10) of 7: the nearer end first", x.least(10), 2);
        due(8, "put(7, 1)", x.put(7, 1), 3);
        due(18, "least(0) of 8", x.least(0), STATE);
        due(18, "least(10) of 8", x.least(10), STATE);
        due(18, "least(3) of 8", x.least(3), BAD);
        due(19, "tree(0) of 8", x.tree(0), BAD);
        due(20, "dearest(0) of 8", x.dearest(0), STATE);
        due(20, "dearest(2) of 8", x.dearest(2), BAD);
        due(21, "adopt() of 8", x.adopt(), STATE);
        due(8, "put(35, 2)", x.put(35, 2), 3);
        due(19, "tree(35) of 8", x.tree(35), STATE);
        due(8, "put(5, 3)", x.put(5, 3), 0);
        due(18, "least(0), the garden having changed", x.least(0), 11);
        x = told(rows("bxgbbb", "xbbbbb"));
        due(18, "least(0) not to be reached", x.least(0), NONE);
        due(18, "least(10) not to be reached", x.least(10), NONE);
        due(19, "tree(1) not to be reached", x.tree(1), NONE);
        due(19, "tree(0)", x.tree(0), BAD);
        due(20, "dearest(1) not to be reached", x.dearest(1), NONE);
        due(21, "adopt() not to be reached", x.adopt(), NONE);
    }

    private static void trees() {
        LawnTrees x = told(rows("bxgbbb", "bbbbbb", "bbbbbb", "bbbbbb", "bbbbbb", "bbbbbx"));
        due(19, "least(0) round the tree", x.least(0), 8);
        due(19, "tree(1)", x.tree(1), 5);
        due(19, "tree(35)", x.tree(35), 0);
        due(19, "tree(0), which is bare", x.tree(0), BAD);
        due(19, "tree(2), which is grass", x.tree(2), BAD);
        due(19, "tree(36)", x.tree(36), BAD);
        due(19, "tree(-1)", x.tree(-1), BAD);
        due(19, "tree changes nothing", x.cell(1, 0), 2);
        due(20, "dearest(0)", x.dearest(0), 1);
        due(20, "dearest(1)", x.dearest(1), 5);
        due(20, "dearest(-1)", x.dearest(-1), BAD);
        due(20, "dearest(2)", x.dearest(2), BAD);
        due(18, "least(0) as before", x.least(0), 8);
        due(8, "put(1, 3)", x.put(1, 3), 2);
        due(20, "dearest(0): the one that is left costs nothing", x.dearest(0), NONE);
        due(20, "dearest(1): the one that is left costs nothing", x.dearest(1), NONE);
        due(20, "dearest(0) without trees", told(rows("bbgbbb")).dearest(0), NONE);
        // two that cost the same: the first
        x = told(rows("bbbbbb", "bxxbbb", "bgbbbb") + "socket 2;turn 0;");
        due(20, "dearest(1), either", x.dearest(1), 2);
        due(20, "dearest(0), the first of both", x.dearest(0), 7);
        due(19, "tree(7)", x.tree(7), 2);
        due(19, "tree(8)", x.tree(8), 2);
    }

    private static void adoptions() {
        LawnTrees x = told(rows("bbbbbb", "bbbbbb", "bbbbbb", "bbbbbb", "bbbbbb", "bbbbbg"));
        due(21, "adopt()", x.adopt(), 2);
        due(21, "moved(0, 1)", x.moved(0, 1), 5);
        due(21, "moved(1, 0)", x.moved(1, 0), 2);
        due(21, "run(0, 0) is least(0)", x.run(0, 0), x.least(0));
        due(21, "run(0, 1)", x.run(0, 1), 1);
        due(21, "adopt(), again, in place of what there was", x.adopt(), 2);
        x = told(rows("bbbbbx", "gxbxbb", "xxbgxg", "xgbxgx", "xxbbbb", "gbbbxg"));
        due(18, "least(1)", x.least(1), 34);
        x.move(2, 4);
        due(21, "adopt() of more than 24", x.adopt(), FULL);
        due(21, "MOVES stay", x.count(2), 1);
        due(21, "moved(0, 1)", x.moved(0, 1), 4);
    }

    private static void places() {
        LawnTrees x = told(rows("gxgggg", "bxbbbb", "bxbbbb", "bxbbbb", "bxbbbb", "bbbbbb") + "cord 12;");
        due(22, "steps(0, 2)", x.steps(0, 2), 12);
        due(22, "steps(2, 0)", x.steps(2, 0), 12);
        due(22, "steps(0, 35)", x.steps(0, 35), 10);
        due(22, "steps(0, 0)", x.steps(0, 0), 0);
        due(22, "steps(1, 1), barred", x.steps(1, 1), NONE);
        due(22, "steps(0, 1), barred", x.steps(0, 1), NONE);
        due(22, "steps(1, 0), barred", x.steps(1, 0), NONE);
        due(22, "steps(0, 36)", x.steps(0, 36), BAD);
        due(22, "steps(36, 0)", x.steps(36, 0), BAD);
        due(22, "steps(-1, 0)", x.steps(-1, 0), BAD);
        due(22, "steps(0, MIN)", x.steps(0, MIN), BAD);
        due(23, "beyond()", x.beyond(), bits(3, 4, 5));
        due(24, "middle(0)", x.middle(0), 26);
        due(24, "middle(1)", x.middle(1), 8);
        due(8, "put(31, 2)", x.put(31, 2), 3);
        due(22, "steps(0, 2), no way", x.steps(0, 2), NONE);
        due(23, "beyond()", x.beyond(), bits(2, 3, 4, 5));
        due(24, "middle(0), none", x.middle(0), NONE);
        due(24, "middle(1), none", x.middle(1), NONE);
        due(24, "middle(-1)", x.middle(-1), BAD);
        due(24, "middle(2)", x.middle(2), BAD);
        due(24, "middle(0) without grass", told(BARE_ROWS).middle(0), NONE);
        due(24, "middle(1) of one cell", told(rows("bbbgbb")).middle(1), 0);
        due(24, "middle(0) of the first cell", told(rows("gbbbbb")).middle(0), 0);
        due(23, "beyond(), the first cell", told(rows("gbbbbb") + "socket 3;cord 2;").beyond(), bits(0));
        due(24, "middle(0) of one cell", told(rows("bbbgbb")).middle(0), 3);
        due(24, "middle(0) of two cells, the first of several", told(rows("gbbbbb", "bgbbbb")).middle(0), 1);
        due(22, "no way round the side", new LawnTrees().steps(5, 6), 6);
        due(23, "beyond() of all", told("cord 9;").beyond(), bits(35));
    }

    private static void robots() {
        LawnTrees x = new LawnTrees();
        long[] dues = {5, 2, 6, 63, 1, 77};
        for (int what = 0; what < 6; what++) {
            due(25, "robot(0, 1, 0, 77, 6, " + what + ")", x.robot(0, 1, 0, 77, 6, what), dues[what]);
        }
        due(25, "left", x.robot(0, 1, 1, 0, 6, 1), 0);
        due(25, "back", x.robot(0, 1, 2, 0, 6, 1), 3);
        // the seed 1 becomes 1103527590 = 0x41C67EA6: bits 16, 17 are 2
        due(25, "drawn", x.robot(0, 0, 3, 1, 1, 1), 2);
        due(25, "the seed then", x.robot(0, 0, 3, 1, 1, 5), 1103527590);
        due(25, "the seed, below 0 by its highest bit", x.robot(0, 0, 3, 2, 1, 5), (int) 2207042835L);
        due(25, "no steps", x.robot(35, 3, 3, 5, 0, 3), bits(35));
        due(25, "999 steps", x.robot(0, 1, 2, 5, 999, 4), 166);
        due(25, "1000 steps", x.robot(0, 1, 2, 5, 1000, 4), BAD);
        due(25, "-1 steps", x.robot(0, 1, 2, 5, -1, 4), BAD);
        due(25, "what 6", x.robot(0, 1, 2, 5, 1, 6), BAD);
        due(25, "what -1", x.robot(0, 1, 2, 5, 1, -1), BAD);
        due(25, "rule 4", x.robot(0, 1, 4, 5, 1, 0), BAD);
        due(25, "rule -1", x.robot(0, 1, -1, 5, 1, 0), BAD);
        due(25, "way 4", x.robot(0, 4, 0, 5, 1, 0), BAD);
        due(25, "cell 36", x.robot(36, 0, 0, 5, 1, 0), BAD);
        due(8, "put(1, 2)", x.put(1, 2), 0);
        due(25, "barred", x.robot(1, 0, 0, 5, 1, 0), STATE);
        due(25, "barred and what 6", x.robot(1, 0, 0, 5, 1, 6), BAD);
        due(25, "it strikes what is barred", x.robot(0, 1, 0, 0, 2, 0), 6);
    }

    private static void robotsPart() {
        LawnTrees x = new LawnTrees();
        due(26, "until, a half", x.until(0, 1, 0, 0, 1, 2), 20);
        due(26, "until, all the border", x.until(0, 1, 0, 0, 5, 9), 22);
        due(26, "until, one more", x.until(0, 1, 0, 0, 7, 12), NONE);
        due(26, "until, nothing", x.until(0, 1, 0, 0, 0, 99), 0);
        due(26, "until, where it begins", x.until(0, 1, 0, 0, 1, 36), 0);
        due(26, "until, more than where it begins", x.until(0, 1, 0, 0, 1, 35), 1);
        due(26, "a above b", x.until(0, 1, 0, 0, 3, 2), BAD);
        due(26, "a below 0", x.until(0, 1, 0, 0, -1, 2), BAD);
        due(26, "b 0", x.until(0, 1, 0, 0, 0, 0), BAD);
        due(26, "b 100", x.until(0, 1, 0, 0, 1, 100), BAD);
        due(26, "rule 4", x.until(0, 1, 4, 0, 1, 2), BAD);
        due(26, "without grass", told(BARE_ROWS).until(0, 1, 0, 0, 1, 1), 0);
        long inside = 0;
        for (int row = 1; row < 5; row++) {
            inside |= 30L << 6 * row;
        }
        due(27, "never, right", x.never(0, 1, 0), inside);
        due(27, "never, left", x.never(0, 1, 1), inside);
        due(27, "never, back", x.never(0, 1, 2), ALL & ~63);
        due(27, "never of rule 3", x.never(0, 1, 3), BAD);
        due(27, "never of rule -1", x.never(0, 1, -1), BAD);
        due(27, "never of way -1", x.never(0, -1, 0), BAD);
        due(28, "best(0, 1, 0, 5, 0), the first of all", x.best(0, 1, 0, 5, 0), 0);
        due(28, "best(0, 1, 0, 5, 1)", x.best(0, 1, 0, 5, 1), 6);
        due(28, "best(0, 1, 0, 0, 1)", x.best(0, 1, 0, 0, 1), 1);
        // right: strikes once and goes south; left strikes twice and goes back west
        due(28, "best(5, 1, 0, 3, 0)", x.best(5, 1, 0, 3, 0), 0);
        // left: from cell 30 looking west, then south, then east; right comes to north at once
        due(28, "best(35, 1, 0, 3, 0)", x.best(35, 1, 0, 3, 0), 1);
        due(28, "best(35, 1, 0, 3, 1)", x.best(35, 1, 0, 3, 1), 3);
        due(28, "best of 1000 steps", x.best(0, 1, 0, 1000, 0), BAD);
        due(28, "best of -1 steps", x.best(0, 1, 0, -1, 0), BAD);
        due(28, "best of what 2", x.best(0, 1, 0, 1, 2), BAD);
        due(28, "best of cell -1", x.best(-1, 1, 0, 1, 0), BAD);
        due(8, "put(1, 2)", x.put(1, 2), 0);
        due(26, "barred", x.until(1, 0, 0, 5, 0, 1), STATE);
        due(27, "barred", x.never(1, 0, 0), STATE);
        due(28, "barred", x.best(1, 0, 0, 0, 0), STATE);
        chancesTaken();
        // bare cells do not count, slopes do
        x = told(rows("bglbbb"));
        due(28, "grass alone counts", x.best(0, 1, 0, 5, 1), 2);
        due(27, "grass alone is told", x.never(6, 1, 2), bits(1, 2));
        due(26, "grass alone counts", x.until(0, 1, 0, 0, 1, 1), 2);
    }

    /** What until and best answer of drawn ways is what robot answers, on a lawn that is all grass. */
    private static void chancesTaken() {
        LawnTrees x = told(rows("gggggg", "gggggg", "xggggg", "gggggx", "gggggg", "ggggxg"));
        int atTheLast = 0;
        for (int seed = 0; seed < 3000; seed++) {
            int been = (int) x.robot(0, 1, 3, seed, 999, 2);
            if (been == x.robot(0, 1, 3, seed, 998, 2) + 1) {
                due(26, "until, by the last step of all, seed " + seed, x.until(0, 1, 3, seed, been, 33), 999);
                atTheLast++;
            }
        }
        due(26, "some came so late", atTheLast > 0 ? 1 : 0, 1);
        for (int seed = 0; seed < 40; seed++) {
            int rule = 0;
            for (int other = 1; other < 4; other++) {
                rule = x.robot(14, 1, other, seed, 50, 2) > x.robot(14, 1, rule, seed, 50, 2) ? other : rule;
            }
            due(28, "best(14, 1, " + seed + ", 50, 0)", x.best(14, 1, seed, 50, 0), rule);
            due(28, "best(14, 1, " + seed + ", 50, 1)", x.best(14, 1, seed, 50, 1), x.robot(14, 1, rule, seed, 50, 2));
        }
    }

    private static void chances() {
        LawnTrees x = new LawnTrees();
        long[][] dues = {
            // cell, way, goal, steps, numerator, denominator
            {0, 1, 0, 0, 1, 1}, {0, 1, 1, 0, 0, 1}, {0, 1, 1, 1, 1, 1}, {0, 0, 1, 1, 0, 1}, {0, 0, 1, 2, 1, 4},
            // it draws east with 1/4, or north or west (1/2) and then east: 1/4 + 1/8
            {0, 0, 1, 3, 3, 8}, {0, 0, 1, 4, 7, 16}, {0, 1, 0, 20, 1, 1},
            // five steps, a strike, south with 1/4; or a strike more
            {0, 1, 5, 5, 1, 1}, {0, 1, 5, 4, 0, 1}, {0, 1, 11, 7, 1, 4}, {0, 1, 11, 8, 3, 8},
            {0, 1, 7, 20, 0, 1}};
        for (long[] d : dues) {
            for (int what = 0; what < 2; what++) {
                due(29, "odds(" + d[0] + ", " + d[1] + ", " + d[2] + ", " + d[3] + ", " + what + ")",
                    x.odds((int) d[0], (int) d[1], (int) d[2], (int) d[3], what), d[4 + what]);
            }
        }
        due(29, "goal 36", x.odds(0, 0, 36, 1, 0), BAD);
        due(29, "goal -1", x.odds(0, 0, -1, 1, 0), BAD);
        due(29, "21 steps", x.odds(0, 0, 1, 21, 0), BAD);
        due(29, "-1 steps", x.odds(0, 0, 1, -1, 0), BAD);
        due(29, "what 2", x.odds(0, 0, 1, 1, 2), BAD);
        due(29, "way 4", x.odds(0, 4, 1, 1, 0), BAD);
        due(29, "cell -1", x.odds(-1, 0, 1, 1, 0), BAD);
        due(8, "put(1, 2)", x.put(1, 2), 0);
        due(29, "barred", x.odds(1, 0, 1, 1, 0), STATE);
        due(29, "a goal that is barred", x.odds(0, 1, 1, 20, 0), 0);
        due(29, "a goal that is barred", x.odds(0, 1, 1, 20, 1), 1);
        // shut in: it turns for ever
        due(8, "put(6, 2)", x.put(6, 2), 0);
        due(29, "shut in", x.odds(0, 1, 35, 20, 0), 0);
    }

    private static void growth() {
        LawnTrees x = told("row glxbhg;high 10;sun 0 9;sun 1 0;sun 3 9;");
        due(31, "high(9, 0)", x.high(9, 0), ALL & ~bits(2, 3, 4));
        due(31, "high(10, 0)", x.high(10, 0), 0);
        due(31, "high(12, 1)", x.high(12, 1), ALL & ~bits(1, 2, 3, 4));
        due(31, "high(13, 1)", x.high(13, 1), bits(0));
        due(31, "high(9, 1), which are", x.high(9, 1), 0);
        due(31, "high(0, 1)", x.high(0, 1), 0);
        due(32, "weeks(9)", x.weeks(9), 0);
        due(32, "weeks(10)", x.weeks(10), 1);
        due(32, "weeks(18)", x.weeks(18), 1);
        due(32, "weeks(19)", x.weeks(19), 2);
        due(32, "weeks(59)", x.weeks(59), 6);
        due(32, "weeks(60)", x.weeks(60), NONE);
        due(30, "week(1)", x.week(1), 19);
        due(30, "cell(1, 1)", x.cell(1, 1), 10);
        due(30, "cell(5, 1)", x.cell(5, 1), 13);
        due(30, "cell(3, 1)", x.cell(3, 1), 0);
        due(30, "week(4)", x.week(4), 55);
        due(31, "high(59, 1)", x.high(59, 1), bits(0));
        due(30, "week(99)", x.week(99), 60);
        due(30, "cell(35, 1)", x.cell(35, 1), 60);
        due(30, "cell(1, 1)", x.cell(1, 1), 10);
        due(31, "high(59, 0)", x.high(59, 0), ALL & ~bits(1, 2, 3, 4));
        due(31, "high(60, 0)", x.high(60, 0), 0);
        for (int n : new int[] {MIN, -1, 0, 100, MAX}) {
            due(30, "week(" + n + ")", x.week(n), BAD);
        }
        for (int v : new int[] {MIN, -1, 61, MAX}) {
            due(31, "high(" + v + ", 0)", x.high(v, 0), BAD);
            due(32, "weeks(" + v + ")", x.weeks(v), BAD);
        }
        due(31, "high(0, 2)", x.high(0, 2), BAD);
        due(31, "high(0, -1)", x.high(0, -1), BAD);
        x = told(BARE_ROWS);
        due(30, "week(9) without grass", x.week(9), 0);
        due(32, "weeks(0) without grass", x.weeks(0), NONE);
        due(8, "put(9, 0)", x.put(9, 0), 3);
        due(32, "weeks(0) of cut grass", x.weeks(0), 1);
        due(30, "week(1)", x.week(1), 3);
        x = told(rows("gbbbbb") + "sun 0 1;high 0;");
        due(32, "weeks(59), the slowest", x.weeks(59), 60);
    }

    private static void stripesSeen() {
        LawnTrees x = told("socket 30;");
        due(33, "stripes(2)", x.stripes(2), 36);
        moves(x, "051124");
        due(13, "mow(0)", x.mow(0), 10);
        due(33, "stripes(0)", x.stripes(0), 9);
        due(33, "stripes(1)", x.stripes(1), 1);
        due(33, "stripes(2)", x.stripes(2), 26);
        due(8, "put(0, 3)", x.put(0, 3), 0);
        due(33, "stripes(0) without the cell", x.stripes(0), 8);
        due(33, "stripes(2) without the cell", x.stripes(2), 26);
        x.week(1);
        due(33, "a PICTURE stays when grass grows", x.stripes(0), 8);
        due(33, "stripes(-1)", x.stripes(-1), BAD);
        due(33, "stripes(3)", x.stripes(3), BAD);
    }

    private static void images() {
        LawnTrees x = new LawnTrees();
        moves(x, "1225");
        due(34, "keep(-1)", x.keep(-1), BAD);
        due(34, "keep(2)", x.keep(2), BAD);
        due(34, "keep(0)", x.keep(0), 0);
        due(34, "count(3)", x.count(3), 1);
        due(35, "back(1)", x.back(1), STATE);
        due(35, "back(2)", x.back(2), BAD);
        due(35, "back(-1)", x.back(-1), BAD);
        x.mow(0);
        x.put(35, 4);
        x.move(0, 1);
        x.week(2);
        due(34, "keep(1)", x.keep(1), 0);
        due(35, "back(0)", x.back(0), 2);
        due(35, "cell(1, 1)", x.cell(1, 1), 3);
        due(35, "cell(1, 3)", x.cell(1, 3), NONE);
        due(35, "cell(35, 0)", x.cell(35, 0), 0);
        due(35, "back(1)", x.back(1), 3);
        due(35, "cell(1, 1)", x.cell(1, 1), 6);
        due(35, "cell(1, 3)", x.cell(1, 3), 1);
        due(35, "cell(35, 0)", x.cell(35, 0), 4);
        due(35, "moved(2, 0)", x.moved(2, 0), 0);
        // what comes behind does not change the image
        x.put(34, 4);
        x.clear();
        due(35, "back(1), again", x.back(1), 3);
        due(35, "cell(34, 0)", x.cell(34, 0), 0);
        due(34, "keep(1), again", x.keep(1), 1);
        due(34, "count(3)", x.count(3), 2);
        due(8, "put(9, 2)", x.put(9, 2), 0);
        due(34, "keep(0), again", x.keep(0), 1);
        feed(x, "socket 9;");
        due(4, "garden()", x.garden(), 1);
        due(35, "back(0), the socket would be barred", x.back(0), STATE);
        due(35, "it changes nothing", x.count(2), 0);
        due(35, "back(1)", x.back(1), 3);
        // LEAST is asked of what came back
        x = told(rows("bbgbbb"));
        x.keep(0);
        x.put(3, 0);
        due(18, "least(0)", x.least(0), 4);
        x.back(0);
        due(35, "least(0) of the image", x.least(0), 3);
    }

    private static void sheets() {
        LawnTrees x = new LawnTrees();
        due(36, "sheet(-1, 0, 1)", x.sheet(-1, 0, 1), BAD);
        due(36, "sheet(4, 0, 1)", x.sheet(4, 0, 1), BAD);
        due(36, "sheet(0, 3, 1)", x.sheet(0, 3, 1), BAD);
        due(36, "sheet(0, -1, 1)", x.sheet(0, -1, 1), BAD);
        due(36, "sheet(0, 0, 49)", x.sheet(0, 0, 49), BAD);
        due(36, "sheet(0, 0, -1)", x.sheet(0, 0, -1), -14);
        due(36, "sheet(0, 0, MIN)", x.sheet(0, 0, MIN), -14);
        due(36, "sheet(4, 0, -1)", x.sheet(4, 0, -1), BAD);
        due(36, "sheet(0, 3, -1)", x.sheet(0, 3, -1), BAD);
        due(36, "nothing still", x.count(5), NONE);
        due(36, "sheet(0, 0, 0)", x.sheet(0, 0, 0), 1);
        due(36, "count(5)", x.count(5), 0);
        due(37, "lay(0, 0, 1)", x.lay(0, 0, 1), -12);
        due(36, "sheet(0, 0, 48)", x.sheet(0, 0, 48), 1);
        due(36, "count(5)", x.count(5), 48);
        due(36, "sheet(0, 0, -1)", x.sheet(0, 0, -1), -14);
        due(36, "it stays", x.count(5), 48);
        due(37, "lay(0, 47, 1)", x.lay(0, 47, 1), 1);
        due(37, "lay(0, 48, 1)", x.lay(0, 48, 1), -12);
        due(37, "lay(0, -1, 1)", x.lay(0, -1, 1), -12);
        due(37, "lay(0, MIN, 1)", x.lay(0, MIN, 1), -12);
        due(37, "lay(1, 0, 1)", x.lay(1, 0, 1), -11);
        due(37, "lay(1, -1, 1)", x.lay(1, -1, 1), -11);
        due(37, "lay(4, 0, 1)", x.lay(4, 0, 1), BAD);
        due(37, "lay(-1, 0, 1)", x.lay(-1, 0, 1), BAD);
        lowestBits();
    }

    private static void lowestBits() {
        LawnTrees x = new LawnTrees();
        int[] wayBits = {0x7f01, 0x7f0001, 1};
        int[] stepBits = {0x102, 0x10002, 2};
        for (int lane = 0; lane < 3; lane++) {
            x.sheet(lane, lane, 2);
            x.lay(lane, 0, wayBits[lane]);
            x.lay(lane, 1, stepBits[lane]);
            due(37, "read(" + lane + ", " + lane + ", 0, 1)", x.read(lane, lane, 0, 1), 1);
            due(37, "moved(" + lane + ", 0)", x.moved(lane, 0), 1);
            due(37, "moved(" + lane + ", 1)", x.moved(lane, 1), 2);
        }
        x.lay(1, 0, 0x101);
        due(37, "a short of 257 is no way", x.read(1, 1, 0, 1), -20);
        x.lay(2, 0, 0x10001);
        due(37, "an int of 65537 is no way", x.read(2, 2, 0, 1), -20);
        x.lay(0, 0, 255);
        due(37, "a byte of 255 is below 0", x.read(0, 0, 0, 1), -20);
        due(36, "sheet(0, 0, 2)", x.sheet(0, 0, 2), 1);
        x.lay(0, 1, 1);
        due(36, "a new row has 0 in it: north", x.read(0, 0, 0, 1), 1);
        due(36, "moved(3, 0)", x.moved(3, 0), 0);
    }

    private static void reads() {
        LawnTrees x = new LawnTrees();
        x.sheet(1, 1, 9);
        for (int i = 0; i < 9; i++) {
            x.lay(1, i, i % 2 == 0 ? i / 2 % 4 : 1 + i / 2);
        }
        due(38, "read(1, 1, 0, 4)", x.read(1, 1, 0, 4), 4);
        due(39, "torn()", x.torn(), 0);
        due(38, "moved(3, 0)", x.moved(3, 0), 3);
        due(38, "moved(3, 1)", x.moved(3, 1), 4);
        due(38, "read(1, 1, 6, 2), the second not whole", x.read(1, 1, 6, 2), 1);
        due(39, "torn()", x.torn(), 2);
        due(38, "moved(4, 1)", x.moved(4, 1), 4);
        due(38, "read(1, 2, 0, 1)", x.read(1, 2, 0, 1), 0);
        due(39, "torn()", x.torn(), 3);
        due(38, "read(1, 2, -1, 1): the lane first", x.read(1, 2, -1, 1), 0);
        due(39, "torn()", x.torn(), 3);
        due(38, "read(0, 2, -1, 1): nothing first", x.read(0, 2, -1, 1), 0);
        due(39, "torn()", x.torn(), 1);
        due(38, "read(1, 1, 1, 1), from an odd cell on", x.read(1, 1, 1, 1), 1);
        due(38, "moved(5, 1)", x.moved(5, 1), 1);
        readsRefused(x);
    }

    private static void readsRefused(LawnTrees x) {
        x.clear();
        x.read(0, 0, 0, 1);
        for (int k : new int[] {MIN, -1, 4, MAX}) {
            due(38, "read(" + k + ", 0, 0, 0)", x.read(k, 0, 0, 0), BAD);
        }
        due(38, "lane 3", x.read(1, 3, 0, 0), BAD);
        due(38, "lane -1", x.read(1, -1, 0, 0), BAD);
        due(38, "n 25", x.read(1, 1, 0, 25), BAD);
        due(38, "n -1", x.read(1, 1, 0, -1), BAD);
        due(39, "refused ones leave it: torn()", x.torn(), 1);
        due(38, "n 0 of nothing", x.read(0, 0, -5, 0), 0);
        due(39, "torn()", x.torn(), 0);
        x.lay(1, 5, 6);
        due(38, "MOVE 2 has 6 steps", x.read(1, 1, 0, 4), -22);
        due(38, "none came", x.count(2), 0);
        due(38, "MOVE 0 has 6 steps", x.read(1, 1, 4, 1), -20);
        due(38, "from the greatest place on", x.read(1, 1, MAX, 24), 0);
        due(39, "torn()", x.torn(), 2);
        due(38, "from the least place on", x.read(1, 1, MIN, 24), 0);
        x.lay(1, 5, 5);
        for (int i = 0; i < 22; i++) {
            x.move(2, 2);
        }
        due(38, "no room for the third", x.read(1, 1, 0, 3), FULL);
        due(38, "none came", x.count(2), 22);
        due(39, "torn() as before", x.torn(), 2);
        x.lay(1, 5, 6);
        due(38, "the third is BAD ahead of no room", x.read(1, 1, 0, 3), -22);
        due(38, "room for two", x.read(1, 1, 0, 2), 2);
        due(38, "moved(23, 0)", x.moved(23, 0), 1);
        due(38, "what is torn comes ahead of no room", x.read(1, 1, 8, 1), 0);
        due(39, "torn()", x.torn(), 2);
        due(38, "n 0 when there is no room", x.read(1, 1, 0, 0), 0);
    }

    private static void counts() {
        LawnTrees x = told("row glxxbh;high 7;");
        x.move(1, 1);
        x.keep(1);
        x.feed(0);
        x.sheet(0, 2, 5);
        int[] dues = {32, 2, 1, 1, 8, 5, 32 * 7};
        for (int what = 0; what < 7; what++) {
            due(40, "count(" + what + ")", x.count(what), dues[what]);
        }
        for (int what : new int[] {MIN, -1, 7, MAX}) {
            due(40, "count(" + what + ")", x.count(what), BAD);
        }
    }

    public static void main(String[] args) {
        newObject();
        feedAndEnd();
        texts();
        faults();
        puts();
        moveRow();
        walks();
        cords();
        beginsAndNeeds();
        leastWays();
        places();
        robots();
        robotsPart();
        chances();
        growth();
        stripesSeen();
        images();
        sheets();
        reads();
        counts();
        System.out.println(asked + " answers asked, " + wrong + " not as due");
        if (wrong != 0) {
            System.exit(1);
        }
    }
}
