import java.util.Arrays;

/** A lawn and four trees: a garden of 36 cells, a mower on a cord, a robot, and the ways they go. */
public final class LawnTrees {
    public static final int BAD = -1, STATE = -2, FULL = -3, NONE = -4;

    private static final int SIDE = 6, CELLS = 36, WAYS = 4;
    private static final int GRASS = 0, SLOPE = 1, BARRED = 2, BARE = 3, HEAP = 4;
    private static final int NORTH = 0, EAST = 1, SOUTH = 2;
    private static final int SOCKET = 0, TURN = 1, CLIMB = 2, BAG = 3, EMPTY = 4, CORD = 5, DEW = 6, HIGH = 7;
    private static final int RULES = 8;
    private static final int[] LEAST_TOLD = {0, 0, 1, 1, 0, 1, 0, 0};
    private static final int[] MOST_TOLD = {35, 3, 4, 200, 9, 99, 999, 60};
    private static final int[] TOLD_AT_FIRST = {0, 1, 2, 30, 2, 20, 0, 3};
    private static final int SUN_AT_FIRST = 3, MOST_SUN = 9, MOST_HEIGHT = 60;
    private static final int MOST_MOVES = 24, MOST_STEPS = 5, MOST_MINUTE = 999, MOST_BAG = 999;
    private static final int TAPE_BYTES = 320, FED = 8;
    private static final int IMAGES = 2, SHEETS = 4, LANES = 3, SHEET_CELLS = 48;
    private static final int NULL_FAULT = 1, INDEX_FAULT = 2, CAST_FAULT = 3, SIZE_FAULT = 4;
    private static final int DRAWN = 3, MOST_ROBOT_STEPS = 999, MOST_CHANCE_STEPS = 20;
    private static final int STANDS = CELLS * WAYS, MOST_TARGETS = 7;

    private final Tape tape = new Tape();
    private final TextReader reader = new TextReader();
    private final Garden garden = new Garden();
    private final Moves moves = new Moves();
    private final Moves adopted = new Moves();
    private final Walk walk = new Walk();
    private final Cord cord = new Cord();
    private final Distances distances = new Distances();
    private final LeastWay leastWay = new LeastWay();
    private final Robot robot = new Robot();
    private final Chance chance = new Chance();
    private final Garden[] imageCells = {new Garden(), new Garden()};
    private final Moves[] imageMoves = {new Moves(), new Moves()};
    private final boolean[] imageKept = new boolean[IMAGES];
    private final Sheet[] sheets = {new Sheet(), new Sheet(), new Sheet(), new Sheet()};
    private int tornFault = 0;

    public LawnTrees() {
    }

    // ---- the text.

    public int feed(long v) {
        return tape.append(v) ? tape.length : FULL;
    }

    public int end(int n) {
        if (n < 0 || n > tape.length) {
            return BAD;
        }
        int had = tape.length;
        tape.length = n;
        return had;
    }

    public int garden() {
        boolean taken = reader.readText(tape);
        tape.length = 0;
        if (!taken) {
            return -10 - reader.faultPlace;
        }
        garden.takeAll(reader.draft);
        moves.size = 0;
        leastWay.forget();
        return reader.lines;
    }

    public int fault() {
        return reader.fault;
    }

    public int rule(int what) {
        return isWithin(what, SOCKET, DEW) ? garden.told(what) : BAD;
    }

    public int cell(int c, int what) {
        if (!isCell(c)) {
            return BAD;
        }
        switch (what) {
            case 0: return garden.kind[c];
            case 1: return garden.height[c];
            case 2: return garden.sun[c];
            case 3: return garden.picture[c];
            default: return BAD;
        }
    }

    public int put(int c, int v) {
        if (!isCell(c) || !isWithin(v, GRASS, HEAP)) {
            return BAD;
        }
        if (v == BARRED && c == garden.told(SOCKET)) {
            return STATE;
        }
        int was = garden.kind[c];
        if (was != v) {
            garden.kind[c] = v;
            garden.height[c] = 0;
            garden.picture[c] = NONE;
            leastWay.forget();
        }
        return was;
    }

    // ---- ways.

    public int move(int way, int steps) {
        if (!isMove(way, steps)) {
            return BAD;
        }
        return moves.append(way, steps) ? moves.size : FULL;
    }

    public int clear() {
        int had = moves.size;
        moves.size = 0;
        return had;
    }

    public int moved(int i, int what) {
        if (!isWithin(i, 0, moves.size - 1) || !isWithin(what, 0, 1)) {
            return BAD;
        }
        return what == 0 ? moves.wayOf(i) : moves.stepsOf(i);
    }

    public int run(int minute, int what) {
        if (!isMinute(minute) || !isWithin(what, 0, 9)) {
            return BAD;
        }
        walk.follow(garden, moves, minute, garden.told(BAG));
        switch (what) {
            case 0: return walk.minutes;
            case 1: return walk.cuts;
            case 2: return walk.went;
            case 3: return walk.stopped ? 1 : 0;
            case 4: return walk.emptied;
            case 5: return walk.load;
            case 6: return walk.place;
            case 7: return walk.quarters;
            case 8: return walk.wet;
            default: return walk.left;
        }
    }

    public int mow(int minute) {
        if (!isMinute(minute)) {
            return BAD;
        }
        walk.follow(garden, moves, minute, garden.told(BAG));
        System.arraycopy(walk.height, 0, garden.height, 0, CELLS);
        System.arraycopy(walk.picture, 0, garden.picture, 0, CELLS);
        return walk.cuts;
    }

    public long cord(int s, int what) {
        if (s < 0 || !isWithin(what, 0, 3)) {
            return BAD;
        }
        cord.draw(garden, moves, s);
        if (cord.went < s) {
            return BAD;
        }
        switch (what) {
            case 0: return cord.size - 1;
            case 1: return cord.bits();
            case 2: return cord.crossings;
            default: return cord.longest;
        }
    }

    public int trips(int what) {
        if (!isWithin(what, 0, 1)) {
            return BAD;
        }
        cord.draw(garden, moves, MOST_MOVES * MOST_STEPS);
        int step = what == 0 ? cord.firstCrossing : cord.firstShort;
        return step > 0 ? step : NONE;
    }

    public int begin() {
        // The first grass that it comes to is the one that must be dry; all after it is met later.
        walk.follow(garden, moves, 0, garden.told(BAG));
        if (walk.firstGrass < 0) {
            return 0;
        }
        int minute = Math.max(0, garden.told(DEW) - walk.firstGrass);
        return minute <= MOST_MINUTE ? minute : NONE;
    }

    public int need(int minute) {
        if (!isMinute(minute)) {
            return BAD;
        }
        // With room for all grass nothing is left: the most that was in the bag is what it must hold.
        walk.follow(garden, moves, minute, CELLS * MOST_HEIGHT);
        int bag = Math.max(1, walk.fullest);
        return bag <= MOST_BAG ? bag : NONE;
    }

    // ---- the least way.

    public int least(int what) {
        if (!isWithin(what, 0, 2) && what < 10) {
            return BAD;
        }
        int refusal = seekLeast();
        if (refusal != 0) {
            return refusal;
        }
        switch (what) {
            case 0: return leastWay.minutes;
            case 1: return leastWay.size;
            case 2: return leastWay.quarters;
            default: return leastWay.wayOf(what - 10);
        }
    }

    public int tree(int c) {
        if (!isCell(c) || garden.kind[c] != BARRED) {
            return BAD;
        }
        int refusal = seekLeast();
        return refusal != 0 ? refusal : leastWay.costOf(garden, c);
    }

    public int dearest(int what) {
        if (!isWithin(what, 0, 1)) {
            return BAD;
        }
        int refusal = seekLeast();
        if (refusal != 0) {
            return refusal;
        }
        leastWay.seekDearest(garden);
        if (leastWay.dearestCost <= 0) {
            return NONE;
        }
        return what == 0 ? leastWay.dearestCell : leastWay.dearestCost;
    }

    public int adopt() {
        int refusal = seekLeast();
        if (refusal != 0) {
            return refusal;
        }
        adopted.size = 0;
        for (int s = 0; s < leastWay.size; s++) {
            if (!adopted.appendStep(leastWay.wayOf(s))) {
                return FULL;
            }
        }
        moves.takeAll(adopted);
        return moves.size;
    }

    /** 0 when LEAST is known, else what least, tree, dearest and adopt answer. */
    private int seekLeast() {
        if (garden.grassCells() > MOST_TARGETS) {
            return STATE;
        }
        leastWay.seek(garden);
        return leastWay.isFound() ? 0 : NONE;
    }

    // ---- where things are.

    public int steps(int a, int b) {
        if (!isCell(a) || !isCell(b)) {
            return BAD;
        }
        distances.measure(garden, a);
        int far = distances.far[b];
        return far >= 0 ? far : NONE;
    }

    public long beyond() {
        distances.measure(garden, garden.told(SOCKET));
        long bits = 0;
        for (int c = 0; c < CELLS; c++) {
            int far = distances.far[c];
            if (garden.isGrass(c) && (far < 0 || far > garden.told(CORD))) {
                bits |= 1L << c;
            }
        }
        return bits;
    }

    public int middle(int what) {
        if (!isWithin(what, 0, 1)) {
            return BAD;
        }
        int best = NONE;
        int bestFar = NONE;
        for (int c = 0; c < CELLS; c++) {
            int far = distances.toFarthestGrass(garden, c);
            if (far >= 0 && (best < 0 || far < bestFar)) {
                best = c;
                bestFar = far;
            }
        }
        return what == 0 ? best : bestFar;
    }

    // ---- the robot.

    public long robot(int c, int way, int rule, int seed, int n, int what) {
        if (!isRobot(c, way, rule, DRAWN) || !isWithin(n, 0, MOST_ROBOT_STEPS) || !isWithin(what, 0, 5)) {
            return BAD;
        }
        if (!garden.isOpen(c)) {
            return STATE;
        }
        robot.standAt(c, way, seed);
        robot.goSteps(garden, rule, n);
        switch (what) {
            case 0: return robot.place;
            case 1: return robot.way;
            case 2: return Long.bitCount(robot.been);
            case 3: return robot.been;
            case 4: return robot.strikes;
            default: return robot.seed;
        }
    }

    public int until(int c, int way, int rule, int seed, int a, int b) {
        if (!isRobot(c, way, rule, DRAWN) || !isWithin(b, 1, 99) || !isWithin(a, 0, b)) {
            return BAD;
        }
        if (!garden.isOpen(c)) {
            return STATE;
        }
        long grass = garden.grassBits();
        int due = a * Long.bitCount(grass);
        robot.standAt(c, way, seed);
        for (int n = 0; n <= MOST_ROBOT_STEPS; n++) {
            if (Long.bitCount(robot.been & grass) * b >= due) {
                return n;
            }
            robot.goStep(garden, rule);
        }
        return NONE;
    }

    public long never(int c, int way, int rule) {
        if (!isRobot(c, way, rule, DRAWN - 1)) {
            return BAD;
        }
        if (!garden.isOpen(c)) {
            return STATE;
        }
        robot.standAt(c, way, 0);
        // Without chance it goes in a ring after as many steps as there are cells and ways to look.
        robot.goSteps(garden, rule, STANDS);
        return garden.grassBits() & ~robot.been;
    }

    public int best(int c, int way, int seed, int n, int what) {
        if (!isRobot(c, way, 0, DRAWN) || !isWithin(n, 0, MOST_ROBOT_STEPS) || !isWithin(what, 0, 1)) {
            return BAD;
        }
        if (!garden.isOpen(c)) {
            return STATE;
        }
        int bestRule = 0;
        int most = -1;
        for (int rule = 0; rule <= DRAWN; rule++) {
            robot.standAt(c, way, seed);
            robot.goSteps(garden, rule, n);
            int been = Long.bitCount(robot.been & garden.grassBits());
            if (been > most) {
                most = been;
                bestRule = rule;
            }
        }
        return what == 0 ? bestRule : most;
    }

    public long odds(int c, int way, int goal, int n, int what) {
        if (!isRobot(c, way, 0, DRAWN) || !isCell(goal)) {
            return BAD;
        }
        if (!isWithin(n, 0, MOST_CHANCE_STEPS) || !isWithin(what, 0, 1)) {
            return BAD;
        }
        if (!garden.isOpen(c)) {
            return STATE;
        }
        chance.weigh(garden, c * WAYS + way, goal, n);
        return what == 0 ? chance.numerator : chance.denominator;
    }

    private static boolean isRobot(int c, int way, int rule, int mostRule) {
        return isCell(c) && isWay(way) && isWithin(rule, 0, mostRule);
    }

    // ---- weeks, stripes.

    public int week(int n) {
        if (!isWithin(n, 1, 99)) {
            return BAD;
        }
        int greatest = 0;
        for (int c = 0; c < CELLS; c++) {
            garden.height[c] = garden.heightIn(c, n);
            greatest = Math.max(greatest, garden.height[c]);
        }
        return greatest;
    }

    public long high(int v, int what) {
        if (!isWithin(v, 0, MOST_HEIGHT) || !isWithin(what, 0, 1)) {
            return BAD;
        }
        long bits = 0;
        for (int c = 0; c < CELLS; c++) {
            boolean isAbove = garden.height[c] > v;
            boolean willBe = garden.heightIn(c, 1) > v;
            if (what == 0 ? isAbove : willBe && !isAbove) {
                bits |= 1L << c;
            }
        }
        return bits;
    }

    public int weeks(int v) {
        if (!isWithin(v, 0, MOST_HEIGHT)) {
            return BAD;
        }
        // What grows at all grows by 1 a week at least: behind 60 weeks nothing changes any more.
        for (int n = 0; n <= MOST_HEIGHT; n++) {
            for (int c = 0; c < CELLS; c++) {
                if (garden.heightIn(c, n) > v) {
                    return n;
                }
            }
        }
        return NONE;
    }

    public int stripes(int what) {
        if (!isWithin(what, 0, 2)) {
            return BAD;
        }
        int cells = 0;
        for (int c = 0; c < CELLS; c++) {
            if (garden.isGrass(c) && garden.stripeOf(c) == what) {
                cells++;
            }
        }
        return cells;
    }

    // ---- images, sheets.

    public int keep(int k) {
        if (!isWithin(k, 0, IMAGES - 1)) {
            return BAD;
        }
        boolean was = imageKept[k];
        imageCells[k].takeCells(garden);
        imageMoves[k].takeAll(moves);
        imageKept[k] = true;
        return was ? 1 : 0;
    }

    public int back(int k) {
        if (!isWithin(k, 0, IMAGES - 1)) {
            return BAD;
        }
        if (!imageKept[k] || !imageCells[k].isOpen(garden.told(SOCKET))) {
            return STATE;
        }
        garden.takeCells(imageCells[k]);
        moves.takeAll(imageMoves[k]);
        leastWay.forget();
        return moves.size;
    }

    public int sheet(int k, int lane, int n) {
        if (!isSheet(k) || !isLane(lane) || n > SHEET_CELLS) {
            return BAD;
        }
        if (n < 0) {
            return -10 - SIZE_FAULT;
        }
        sheets[k].startAnew(lane, n);
        return 1;
    }

    public int lay(int k, int i, int v) {
        if (!isSheet(k)) {
            return BAD;
        }
        Sheet page = sheets[k];
        int refusal = page.faultOf(page.lane, i);
        if (refusal != 0) {
            return -10 - refusal;
        }
        page.write(i, v);
        return 1;
    }

    public int read(int k, int lane, int f, int n) {
        if (!isSheet(k) || !isLane(lane) || !isWithin(n, 0, MOST_MOVES)) {
            return BAD;
        }
        Sheet page = sheets[k];
        int had = moves.size;
        int found = 0;
        for (int i = 0; i < n && found == 0; i++) {
            // A place near the greatest int must not wrap round into the sheet.
            long first = f + 2L * i;
            found = page.faultOf(lane, first);
            if (found == 0) {
                found = page.faultOf(lane, first + 1);
            }
            if (found == 0) {
                int refusal = moveFrom(page, (int) first, i);
                if (refusal != 0) {
                    moves.size = had;
                    return refusal;
                }
            }
        }
        tornFault = found;
        return moves.size - had;
    }

    /** Takes MOVE i of a read, whole, from a sheet: 0, or what read answers. */
    private int moveFrom(Sheet page, int first, int i) {
        int way = page.valueAt(first);
        int steps = page.valueAt(first + 1);
        if (!isMove(way, steps)) {
            return -20 - i;
        }
        return moves.append(way, steps) ? 0 : FULL;
    }

    public int torn() {
        return tornFault;
    }

    public int count(int what) {
        switch (what) {
            case 0: return garden.grassCells();
            case 1: return garden.barredCells();
            case 2: return moves.size;
            case 3: return (imageKept[0] ? 1 : 0) + (imageKept[1] ? 1 : 0);
            case 4: return tape.length;
            case 5: return sheets[0].isNothing() ? NONE : sheets[0].size;
            case 6: return garden.heightsSummed();
            default: return BAD;
        }
    }

    // ---- what all parts use.

    private static boolean isWithin(int v, int from, int to) {
        return v >= from && v <= to;
    }

    private static boolean isCell(int c) {
        return c >= 0 && c < CELLS;
    }

    private static boolean isWay(int way) {
        return isWithin(way, 0, WAYS - 1);
    }

    private static boolean isMove(int way, int steps) {
        return isWay(way) && isWithin(steps, 1, MOST_STEPS);
    }

    private static boolean isMinute(int minute) {
        return isWithin(minute, 0, MOST_MINUTE);
    }

    private static boolean isSheet(int k) {
        return isWithin(k, 0, SHEETS - 1);
    }

    private static boolean isLane(int lane) {
        return isWithin(lane, 0, LANES - 1);
    }

    /** Quarters from looking one way to looking another, the short way round. */
    private static int quartersBetween(int look, int way) {
        int right = (way - look) & 3;
        return right == 3 ? 1 : right;
    }

    /** The garden's cells and what the text told of it. */
    private static final class Garden {
        final int[] kind = new int[CELLS];
        final int[] height = new int[CELLS];
        final int[] sun = new int[CELLS];
        final int[] picture = new int[CELLS];
        final int[] rules = new int[RULES];

        Garden() {
            startAnew();
        }

        void startAnew() {
            Arrays.fill(kind, GRASS);
            Arrays.fill(sun, SUN_AT_FIRST);
            Arrays.fill(picture, NONE);
            System.arraycopy(TOLD_AT_FIRST, 0, rules, 0, RULES);
            growToTold();
        }

        void growToTold() {
            for (int c = 0; c < CELLS; c++) {
                height[c] = isGrass(c) ? rules[HIGH] : 0;
            }
        }

        void takeCells(Garden other) {
            System.arraycopy(other.kind, 0, kind, 0, CELLS);
            System.arraycopy(other.height, 0, height, 0, CELLS);
            System.arraycopy(other.picture, 0, picture, 0, CELLS);
        }

        void takeAll(Garden other) {
            takeCells(other);
            System.arraycopy(other.sun, 0, sun, 0, CELLS);
            System.arraycopy(other.rules, 0, rules, 0, RULES);
        }

        int told(int what) {
            return isWithin(what, 0, RULES - 1) ? rules[what] : 0;
        }

        boolean isOpen(int c) {
            return c >= 0 && c < CELLS && kind[c] != BARRED;
        }

        boolean isGrass(int c) {
            return isCell(c) && (kind[c] == GRASS || kind[c] == SLOPE);
        }

        /** The cell that a step comes to; NONE where it is barred or beyond. */
        int ahead(int c, int way) {
            int column = c % SIDE;
            int next = c - 1;
            if (way == NORTH) {
                next = c - SIDE;
            } else if (way == SOUTH) {
                next = c + SIDE;
            } else if (way == EAST) {
                next = column < SIDE - 1 ? c + 1 : NONE;
            } else if (column == 0) {
                next = NONE;
            }
            return isOpen(next) ? next : NONE;
        }

        int minutesOfStep(int way, int next) {
            return way == NORTH && isCell(next) && kind[next] == SLOPE ? rules[CLIMB] : 1;
        }

        long grassBits() {
            long bits = 0;
            for (int c = 0; c < CELLS; c++) {
                if (isGrass(c)) {
                    bits |= 1L << c;
                }
            }
            return bits;
        }

        int grassCells() {
            return Long.bitCount(grassBits());
        }

        int barredCells() {
            int cells = 0;
            for (int c = 0; c < CELLS; c++) {
                cells += isOpen(c) ? 0 : 1;
            }
            return cells;
        }

        int heightsSummed() {
            int sum = 0;
            for (int c = 0; c < CELLS; c++) {
                sum += height[c];
            }
            return sum;
        }

        int heightIn(int c, int weeks) {
            return isGrass(c) ? Math.min(MOST_HEIGHT, height[c] + weeks * sun[c]) : 0;
        }

        /** 0 a right stripe, 1 another picture, 2 no picture. */
        int stripeOf(int c) {
            if (!isCell(c) || picture[c] == NONE) {
                return 2;
            }
            int due = c % SIDE % 2 == 0 ? NORTH : SOUTH;
            return picture[c] == due ? 0 : 1;
        }
    }

    /** The bytes that were fed, and the token that was read of them last. */
    private static final class Tape {
        static final int NO_TOKEN = 0, NAME = 1, NUMBER = 2, SIGN = 3, BLANK = 4, END = 5;
        static final int MOST_FIGURES = 3;

        final byte[] bytes = new byte[TAPE_BYTES];
        int length = 0;
        int token = END;
        int start = 0;
        int stop = 0;
        int number = 0;

        boolean append(long v) {
            if (length + FED > TAPE_BYTES) {
                return false;
            }
            for (int i = 0; i < FED; i++) {
                bytes[length + i] = (byte) (v >>> (8 * (FED - 1 - i)));
            }
            length += FED;
            return true;
        }

        void rewind() {
            stop = 0;
        }

        /** Which token a byte is of, or a blank; END behind the last. */
        private int tokenAt(int place) {
            if (place < 0 || place >= length || place >= TAPE_BYTES) {
                return END;
            }
            int sign = bytes[place];
            if (sign >= 'a' && sign <= 'z') {
                return NAME;
            }
            if (sign >= '0' && sign <= '9') {
                return NUMBER;
            }
            return sign == ';' ? SIGN : sign == ' ' ? BLANK : NO_TOKEN;
        }

        void readToken() {
            start = stop;
            while (start < length && tokenAt(start) == BLANK) {
                start++;
            }
            token = tokenAt(start);
            stop = start < length ? start + 1 : start;
            boolean isLong = token == NAME || token == NUMBER;
            while (isLong && stop < length && tokenAt(stop) == token) {
                stop++;
            }
            if (token == NUMBER) {
                takeFigures();
            }
        }

        private void takeFigures() {
            number = 0;
            if (stop - start > MOST_FIGURES) {
                token = NO_TOKEN;
                return;
            }
            for (int i = start; i < stop && i < TAPE_BYTES; i++) {
                number = number * 10 + bytes[i] - '0';
            }
        }

        /** The letter of the token at a place from its first one on; blank behind its last. */
        char letterOf(int i) {
            int place = start + i;
            return i >= 0 && place < stop && place < TAPE_BYTES ? (char) (bytes[place] & 255) : ' ';
        }

        boolean spells(String name) {
            if (stop - start != name.length()) {
                return false;
            }
            for (int i = 0; i < name.length(); i++) {
                if (name.charAt(i) != letterOf(i)) {
                    return false;
                }
            }
            return true;
        }
    }

    /** Reads a text line by line into a draft, so that a fault leaves the garden as it was. */
    private static final class TextReader {
        static final int ROW = 0, SUN = 9, LINES = 10, NO_LINE = -1;
        static final int NOT_A_TOKEN = 1, MISPLACED = 2, OUT_OF_BOUNDS = 3, TWICE = 4, TOO_MANY_ROWS = 5;
        static final int SOCKET_BARRED = 6;
        static final String KINDS = "glxbh";

        final Garden draft = new Garden();
        int fault = 0;
        int faultPlace = 0;
        int lines = 0;
        private int rows = 0;
        private int told = 0;
        private long sunTold = 0;

        boolean readText(Tape tape) {
            startAnew(tape);
            for (int i = 0; i <= TAPE_BYTES; i++) {
                tape.readToken();
                if (tape.token == Tape.END) {
                    break;
                }
                if (!takeLine(tape)) {
                    return false;
                }
                lines++;
            }
            draft.growToTold();
            return draft.isOpen(draft.told(SOCKET)) || refuse(SOCKET_BARRED, tape.length);
        }

        private void startAnew(Tape tape) {
            draft.startAnew();
            tape.rewind();
            fault = 0;
            faultPlace = 0;
            lines = 0;
            rows = 0;
            told = 0;
            sunTold = 0;
        }

        private boolean refuse(int number, int place) {
            fault = number;
            faultPlace = place;
            return false;
        }

        /** Whether the token that was read is one that can stand there. */
        private boolean isDue(Tape tape, int token) {
            if (tape.token == Tape.NO_TOKEN) {
                return refuse(NOT_A_TOKEN, tape.start);
            }
            return tape.token == token || refuse(MISPLACED, tape.start);
        }

        private boolean takeLine(Tape tape) {
            if (!isDue(tape, Tape.NAME)) {
                return false;
            }
            int kind = kindOfLine(tape);
            if (kind == NO_LINE) {
                return refuse(MISPLACED, tape.start);
            }
            if (kind == ROW && rows == SIDE) {
                return refuse(TOO_MANY_ROWS, tape.start);
            }
            if (kind != ROW && kind != SUN && (told >> kind & 1) == 1) {
                return refuse(TWICE, tape.start);
            }
            told |= 1 << kind;
            boolean isTaken = kind == ROW ? takeRow(tape) : kind == SUN ? takeSun(tape) : takeRule(tape, kind - 1);
            if (!isTaken) {
                return false;
            }
            tape.readToken();
            return isDue(tape, Tape.SIGN);
        }

        private int kindOfLine(Tape tape) {
            for (int kind = 0; kind < LINES; kind++) {
                if (tape.spells(nameOf(kind))) {
                    return kind;
                }
            }
            return NO_LINE;
        }

        /** The lines between row and sun stand as the rules that they tell. */
        private static String nameOf(int kind) {
            switch (kind) {
                case ROW: return "row";
                case SOCKET + 1: return "socket";
                case TURN + 1: return "turn";
                case CLIMB + 1: return "climb";
                case BAG + 1: return "bag";
                case EMPTY + 1: return "empty";
                case CORD + 1: return "cord";
                case DEW + 1: return "dew";
                case HIGH + 1: return "high";
                default: return "sun";
            }
        }

        private boolean takeRow(Tape tape) {
            tape.readToken();
            if (!isDue(tape, Tape.NAME)) {
                return false;
            }
            if (tape.stop - tape.start != SIDE) {
                return refuse(OUT_OF_BOUNDS, tape.start);
            }
            for (int column = 0; column < SIDE; column++) {
                int kind = KINDS.indexOf(tape.letterOf(column));
                if (kind < 0) {
                    return refuse(OUT_OF_BOUNDS, tape.start);
                }
                draft.kind[rows * SIDE + column] = kind;
            }
            rows++;
            return true;
        }

        private boolean takeNumber(Tape tape, int least, int most) {
            tape.readToken();
            if (!isDue(tape, Tape.NUMBER)) {
                return false;
            }
            return isWithin(tape.number, least, most) || refuse(OUT_OF_BOUNDS, tape.start);
        }

        private boolean takeRule(Tape tape, int rule) {
            if (!isWithin(rule, 0, RULES - 1) || !takeNumber(tape, LEAST_TOLD[rule], MOST_TOLD[rule])) {
                return false;
            }
            draft.rules[rule] = tape.number;
            return true;
        }

        private boolean takeSun(Tape tape) {
            if (!takeNumber(tape, 0, CELLS - 1)) {
                return false;
            }
            int c = tape.number;
            if ((sunTold >> c & 1) == 1) {
                return refuse(TWICE, tape.start);
            }
            sunTold |= 1L << c;
            if (!takeNumber(tape, 0, MOST_SUN)) {
                return false;
            }
            draft.sun[c] = tape.number;
            return true;
        }
    }

    /** The MOVES that are told, in their order. */
    private static final class Moves {
        private final int[] ways = new int[MOST_MOVES];
        private final int[] lengths = new int[MOST_MOVES];
        int size = 0;

        boolean append(int way, int length) {
            if (size >= MOST_MOVES) {
                return false;
            }
            ways[size] = way;
            lengths[size] = length;
            size++;
            return true;
        }

        /** One step more: of the last MOVE, if it goes that way and may be longer, else a MOVE of its own. */
        boolean appendStep(int way) {
            int last = size - 1;
            if (wayOf(last) == way && stepsOf(last) < MOST_STEPS) {
                lengths[last]++;
                return true;
            }
            return append(way, 1);
        }

        int wayOf(int i) {
            return isWithin(i, 0, size - 1) ? ways[i] : BAD;
        }

        int stepsOf(int i) {
            return isWithin(i, 0, size - 1) ? lengths[i] : BAD;
        }

        void takeAll(Moves other) {
            System.arraycopy(other.ways, 0, ways, 0, MOST_MOVES);
            System.arraycopy(other.lengths, 0, lengths, 0, MOST_MOVES);
            size = other.size;
        }
    }

    /** What the WAY comes to, gone on grass of its own, so that the garden's stays. */
    private static final class Walk {
        final int[] height = new int[CELLS];
        final int[] picture = new int[CELLS];
        int minutes;
        int cuts;
        int went;
        boolean stopped;
        int emptied;
        int load;
        int place;
        int quarters;
        int wet;
        int left;
        int fullest;
        /** Minutes gone when it first came to grass with a height, -1 if it never did. */
        int firstGrass;
        private int beginning;
        private int room;

        void follow(Garden garden, Moves moves, int minute, int bag) {
            startAnew(garden, minute, bag);
            int look = NORTH;
            for (int i = 0; i < moves.size && !stopped; i++) {
                int way = moves.wayOf(i);
                int turned = quartersBetween(look, way);
                quarters += turned;
                minutes += turned * garden.told(TURN);
                look = way;
                for (int s = moves.stepsOf(i); s > 0 && !stopped; s--) {
                    goStep(garden, way);
                }
            }
        }

        private void startAnew(Garden garden, int minute, int bag) {
            System.arraycopy(garden.height, 0, height, 0, CELLS);
            System.arraycopy(garden.picture, 0, picture, 0, CELLS);
            minutes = 0;
            cuts = 0;
            went = 0;
            stopped = false;
            emptied = 0;
            load = 0;
            place = garden.told(SOCKET);
            quarters = 0;
            wet = 0;
            left = 0;
            fullest = 0;
            firstGrass = -1;
            beginning = minute;
            room = bag;
        }

        private void goStep(Garden garden, int way) {
            int next = garden.ahead(place, way);
            if (next < 0) {
                stopped = true;
                return;
            }
            minutes += garden.minutesOfStep(way, next);
            place = next;
            went++;
            if (garden.kind[next] == HEAP && load > 0) {
                load = 0;
                emptied++;
                minutes += garden.told(EMPTY);
            }
            if (height[next] > 0) {
                meetGrass(way, garden.told(DEW));
            }
        }

        private void meetGrass(int way, int dew) {
            if (!isCell(place)) {
                return;
            }
            if (firstGrass < 0) {
                firstGrass = minutes;
            }
            if (beginning + minutes < dew) {
                wet++;
            } else if (load + height[place] <= room) {
                load += height[place];
                fullest = Math.max(fullest, load);
                height[place] = 0;
                picture[place] = way;
                cuts++;
            } else {
                left++;
            }
        }
    }

    /** Where the cord lies behind so many steps of the WAY. */
    private static final class Cord {
        private final int[] row = new int[MOST_MOVES * MOST_STEPS + 1];
        private final int[] lying = new int[CELLS];
        int size;
        int went;
        int crossings;
        int longest;
        int firstCrossing;
        int firstShort;

        void draw(Garden garden, Moves moves, int most) {
            startAt(garden.told(SOCKET));
            int place = garden.told(SOCKET);
            for (int i = 0; i < moves.size; i++) {
                for (int s = moves.stepsOf(i); s > 0; s--) {
                    place = went < most ? garden.ahead(place, moves.wayOf(i)) : NONE;
                    if (place < 0) {
                        return;
                    }
                    drawTo(place, garden.told(CORD));
                }
            }
        }

        private void startAt(int socket) {
            Arrays.fill(lying, 0);
            size = 0;
            went = 0;
            crossings = 0;
            longest = 0;
            firstCrossing = 0;
            firstShort = 0;
            layOn(socket);
        }

        private void layOn(int c) {
            if (isCell(c) && size < row.length) {
                row[size] = c;
                size++;
                lying[c]++;
            }
        }

        private void drawTo(int c, int most) {
            went++;
            if (size >= 2 && row[size - 2] == c) {
                size--;
                lying[row[size]]--;
            } else {
                if (lying[c] > 0) {
                    crossings++;
                    firstCrossing = firstCrossing == 0 ? went : firstCrossing;
                }
                layOn(c);
            }
            longest = Math.max(longest, size - 1);
            if (size - 1 > most && firstShort == 0) {
                firstShort = went;
            }
        }

        long bits() {
            long bits = 0;
            for (int c = 0; c < CELLS; c++) {
                if (lying[c] > 0) {
                    bits |= 1L << c;
                }
            }
            return bits;
        }
    }

    /** How many steps each cell is from one, round what is barred. */
    private static final class Distances {
        /** NONE where there is no way. */
        final int[] far = new int[CELLS];
        private final int[] queue = new int[CELLS];

        void measure(Garden garden, int from) {
            Arrays.fill(far, NONE);
            if (!garden.isOpen(from)) {
                return;
            }
            far[from] = 0;
            queue[0] = from;
            int found = 1;
            for (int i = 0; i < found && i < CELLS; i++) {
                for (int way = 0; way < WAYS; way++) {
                    int next = garden.ahead(queue[i], way);
                    if (next >= 0 && far[next] < 0 && found < CELLS) {
                        far[next] = far[queue[i]] + 1;
                        queue[found] = next;
                        found++;
                    }
                }
            }
        }

        /** NONE if there is no grass, or some that is not reached. */
        int toFarthestGrass(Garden garden, int from) {
            measure(garden, from);
            int farthest = NONE;
            for (int c = 0; c < CELLS; c++) {
                if (garden.isGrass(c)) {
                    if (far[c] < 0) {
                        return NONE;
                    }
                    farthest = Math.max(farthest, far[c]);
                }
            }
            return farthest;
        }
    }

    /**
     * LEAST, exactly. A stand is a cell and a way to look (4 times the cell and the way). First it measures the
     * minutes from every stand to each target (a cell of grass, come to by one way), then from each target, by
     * which targets have been seen, the minutes that are left; last it follows the first ways that keep to them.
     */
    private static final class LeastWay {
        private static final int FAR = 1000000, MOST_ROUNDS = 1000000;
        private static final int ENDS = MOST_TARGETS * WAYS;

        private final Garden plan = new Garden();
        private final int[] next = new int[STANDS];
        private final int[] stepMinutes = new int[STANDS];
        private final int[] bitOf = new int[CELLS];
        private final int[] targets = new int[MOST_TARGETS];
        private final int[] far = new int[ENDS * STANDS];
        private final int[] rest = new int[(1 << MOST_TARGETS) * ENDS];
        private final int[] queue = new int[STANDS];
        private final boolean[] isQueued = new boolean[STANDS];
        private final int[] ways = new int[MOST_TARGETS * CELLS];
        private int found;
        private int all;
        private int turn;
        private boolean isSought = false;
        private boolean isDearestSought = false;
        int minutes;
        int size;
        int quarters;
        int dearestCell;
        int dearestCost;

        void forget() {
            isSought = false;
            isDearestSought = false;
        }

        boolean isFound() {
            return minutes < FAR;
        }

        int wayOf(int s) {
            return isWithin(s, 0, size - 1) ? ways[s] : BAD;
        }

        void seek(Garden garden) {
            if (isSought) {
                return;
            }
            minutes = minutesWith(garden, NONE);
            follow();
            isSought = true;
        }

        int costOf(Garden garden, int barred) {
            int beside = 0;
            for (int way = 0; way < WAYS; way++) {
                beside += garden.ahead(barred, way) >= 0 ? 1 : 0;
            }
            // A cell with one side open is no way through, and turning round in it costs no less than ahead of it.
            return beside < 2 ? 0 : minutes - minutesWith(garden, barred);
        }

        void seekDearest(Garden garden) {
            if (isDearestSought) {
                return;
            }
            dearestCell = NONE;
            dearestCost = 0;
            for (int c = 0; c < CELLS; c++) {
                if (!garden.isOpen(c)) {
                    int cost = costOf(garden, c);
                    if (cost > dearestCost) {
                        dearestCell = c;
                        dearestCost = cost;
                    }
                }
            }
            isDearestSought = true;
        }

        /** The minutes of LEAST if a cell that is barred was bare (NONE: as it is); FAR if there is none. */
        private int minutesWith(Garden garden, int opened) {
            plan.takeAll(garden);
            if (isCell(opened)) {
                plan.kind[opened] = BARE;
            }
            chart();
            for (int target = 0; target < found; target++) {
                for (int look = 0; look < WAYS; look++) {
                    measure(target, look);
                }
            }
            int seen = seenAtFirst();
            for (int mask = all; mask >= 0; mask--) {
                if ((mask & seen) == seen) {
                    weigh(mask);
                }
            }
            return minutesFrom(plan.told(SOCKET) * WAYS + NORTH, seen);
        }

        private int seenAtFirst() {
            int socket = plan.told(SOCKET);
            return isCell(socket) ? bitOf[socket] : 0;
        }

        private void chart() {
            turn = plan.told(TURN);
            found = 0;
            for (int c = 0; c < CELLS; c++) {
                bitOf[c] = 0;
                if (plan.isGrass(c) && found < MOST_TARGETS) {
                    bitOf[c] = 1 << found;
                    targets[found] = c;
                    found++;
                }
                for (int way = 0; way < WAYS; way++) {
                    int to = plan.ahead(c, way);
                    next[c * WAYS + way] = to;
                    stepMinutes[c * WAYS + way] = plan.minutesOfStep(way, to);
                }
            }
            all = (1 << found) - 1;
            Arrays.fill(far, FAR);
        }

        /** The minutes from all stands to a target, come to by one way: from there backward. */
        private void measure(int target, int look) {
            int base = (target * WAYS + look) * STANDS;
            int goal = targets[target] * WAYS + look;
            far[base + goal] = 0;
            queue[0] = goal;
            int head = 0;
            int queued = 1;
            for (int round = 0; round < MOST_ROUNDS && queued > 0; round++) {
                int stand = queue[head];
                head = (head + 1) % STANDS;
                queued--;
                isQueued[stand] = false;
                int way = stand % WAYS;
                int from = next[stand - way + (way + 2) % WAYS];
                for (int before = 0; before < WAYS && from >= 0; before++) {
                    int other = from * WAYS + before;
                    int sum = far[base + stand] + minutesToGo(other, way);
                    if (sum < far[base + other]) {
                        far[base + other] = sum;
                        if (!isQueued[other]) {
                            isQueued[other] = true;
                            queue[(head + queued) % STANDS] = other;
                            queued++;
                        }
                    }
                }
            }
        }

        /** Minutes of the turn and the step from a stand one way on. */
        private int minutesToGo(int stand, int way) {
            int look = stand % WAYS;
            return turn * quartersBetween(look, way) + stepMinutes[stand - look + way];
        }

        /** The minutes that are left from each target that has been seen. */
        private void weigh(int mask) {
            for (int target = 0; target < found; target++) {
                for (int look = 0; look < WAYS && (mask >> target & 1) == 1; look++) {
                    int stand = targets[target] * WAYS + look;
                    rest[mask * ENDS + target * WAYS + look] = minutesFrom(stand, mask);
                }
            }
        }

        /** The minutes that are left from a stand, when the targets of a mask have been seen. */
        private int minutesFrom(int stand, int mask) {
            if (mask == all) {
                return 0;
            }
            int best = FAR;
            for (int target = 0; target < found; target++) {
                int with = mask | 1 << target;
                for (int look = 0; look < WAYS && with != mask; look++) {
                    int end = target * WAYS + look;
                    best = Math.min(best, far[end * STANDS + stand] + rest[with * ENDS + end]);
                }
            }
            return best;
        }

        /** Goes LEAST step by step, each time by the first way that does not take more minutes. */
        private void follow() {
            int stand = plan.told(SOCKET) * WAYS + NORTH;
            int mask = seenAtFirst();
            size = 0;
            quarters = 0;
            int most = isFound() ? ways.length : 0;
            for (int s = 0; s < most && mask != all; s++) {
                int way = firstWay(stand, mask);
                if (way < 0) {
                    return;
                }
                int look = stand % WAYS;
                int to = next[stand - look + way];
                ways[s] = way;
                size = s + 1;
                quarters += quartersBetween(look, way);
                stand = to * WAYS + way;
                mask |= bitOf[to];
            }
        }

        private int firstWay(int stand, int mask) {
            int left = minutesFrom(stand, mask);
            for (int way = 0; way < WAYS; way++) {
                int to = next[stand - stand % WAYS + way];
                if (to >= 0) {
                    int then = minutesFrom(to * WAYS + way, mask | bitOf[to]);
                    if (minutesToGo(stand, way) + then == left) {
                        return way;
                    }
                }
            }
            return NONE;
        }
    }

    /** A robot that goes on till the next cell is barred, and turns there by a rule. */
    private static final class Robot {
        int place;
        int way;
        int seed;
        int strikes;
        /** The cells where it has been, bits. */
        long been;

        void standAt(int c, int look, int firstSeed) {
            place = c;
            way = look;
            seed = firstSeed;
            strikes = 0;
            been = 1L << c;
        }

        void goSteps(Garden garden, int rule, int n) {
            for (int i = 0; i < n; i++) {
                goStep(garden, rule);
            }
        }

        void goStep(Garden garden, int rule) {
            int next = garden.ahead(place, way);
            if (next >= 0) {
                place = next;
                been |= 1L << next;
                return;
            }
            strikes++;
            if (rule == DRAWN) {
                seed = seed * 1103515245 + 12345;
                way = seed >> 16 & 3;
            } else {
                way = (way + quartersOf(rule)) % WAYS;
            }
        }

        /** Quarters to the right: of rule 0 one, of rule 1 (left) three, of rule 2 (back) two. */
        private static int quartersOf(int rule) {
            return rule == 0 ? 1 : rule == 1 ? 3 : 2;
        }
    }

    /** How likely a robot that turns by chance has been in a cell. */
    private static final class Chance {
        private final long[] weights = new long[STANDS];
        private final long[] later = new long[STANDS];
        private long come;
        long numerator;
        long denominator;

        /** Behind each step all weights are told in parts four times as fine: 4 to the power of 20 at the end. */
        void weigh(Garden garden, int stand, int goal, int n) {
            Arrays.fill(weights, 0);
            come = 0;
            denominator = 1;
            if (stand / WAYS == goal) {
                come = 1;
            } else {
                weights[stand] = 1;
            }
            for (int i = 0; i < n; i++) {
                goStep(garden, goal);
                denominator *= WAYS;
            }
            numerator = come;
            for (int i = 0; i < 2 * n && numerator % 2 == 0; i++) {
                numerator /= 2;
                denominator /= 2;
            }
        }

        private void goStep(Garden garden, int goal) {
            Arrays.fill(later, 0);
            come *= WAYS;
            for (int stand = 0; stand < STANDS; stand++) {
                if (weights[stand] > 0) {
                    spread(garden, stand, goal);
                }
            }
            System.arraycopy(later, 0, weights, 0, STANDS);
        }

        private void spread(Garden garden, int stand, int goal) {
            int way = stand % WAYS;
            int c = stand / WAYS;
            int next = garden.ahead(c, way);
            if (next == goal) {
                come += WAYS * weights[stand];
            } else if (next >= 0) {
                later[next * WAYS + way] += WAYS * weights[stand];
            } else {
                for (int drawn = 0; drawn < WAYS; drawn++) {
                    later[c * WAYS + drawn] += weights[stand];
                }
            }
        }
    }

    /** A row of numbers of one lane, or nothing; it tells what the machine would find. */
    private static final class Sheet {
        private static final int NOTHING = -1, BYTES = 0, SHORTS = 1;

        private final int[] values = new int[SHEET_CELLS];
        int lane = NOTHING;
        int size = 0;

        void startAnew(int newLane, int newSize) {
            Arrays.fill(values, 0);
            lane = newLane;
            size = newSize;
        }

        boolean isNothing() {
            return lane == NOTHING;
        }

        /** The fault of taking a cell of the sheet as of a lane; 0, if there is none. */
        int faultOf(int asLane, long place) {
            if (isNothing()) {
                return NULL_FAULT;
            }
            if (asLane != lane) {
                return CAST_FAULT;
            }
            return place >= 0 && place < size ? 0 : INDEX_FAULT;
        }

        void write(int i, int v) {
            if (isWithin(i, 0, size - 1)) {
                values[i] = lane == BYTES ? (byte) v : lane == SHORTS ? (short) v : v;
            }
        }

        int valueAt(int i) {
            return isWithin(i, 0, size - 1) ? values[i] : 0;
        }
    }
}
