import java.util.ArrayList;
import java.util.HashSet;
import java.util.List;
import java.util.PriorityQueue;
import java.util.Random;
import java.util.Set;

/** Promises 18 to 21: LEAST in random gardens against a plain search through all cells, ways and grass seen. */
public final class LeastAgainstSearch {
    private static final int[] DOWN = {-1, 0, 1, 0};
    private static final int[] RIGHT = {0, 1, 0, -1};
    /** Gardens whose LEAST is long (46 and 48 STEPS), found by trying. */
    private static final String[] LONG = {"gxbbbbbbbxxgxlblxxbbbbbxbxbxbbgxbgxg", "gxgxlbbxblxbbxbbxbbbbbbbxxbxlxlbbxbl",
        "bbbxgbgxbgxbxlbbbbbbbbbxbxbxbbgxblxg", "bgxbbbbxgbxgbbbblxxbxbxgbbxbxbgxlbbb"};
    private static final int[][] LONG_RULES = {{26, 3, 3}, {26, 3, 4}, {26, 3, 2}, {27, 3, 4}};
    private static int wrong = 0;
    private static int found = 0;
    private static int unreached = 0;
    private static int costly = 0;
    private static int full = 0;
    private static int longest = 0;

    private record Row(int minutes, String ways, int cell, int look, int seen) implements Comparable<Row> {
        public int compareTo(Row o) {
            return minutes != o.minutes ? Integer.compare(minutes, o.minutes) : ways.compareTo(o.ways);
        }
    }

    private static void due(String what, String garden, long got, long want) {
        if (got != want) {
            wrong++;
            System.out.println(garden + ": " + what + " answered " + got + ", due is " + want);
        }
    }

    /** The least row, or null. Rows come out of the queue by minutes, then by their ways. */
    private static Row search(char[] cells, int socket, int turn, int climb) {
        List<Integer> grass = new ArrayList<>();
        for (int c = 0; c < 36; c++) {
            if (cells[c] == 'g' || cells[c] == 'l') {
                grass.add(c);
            }
        }
        int all = (1 << grass.size()) - 1;
        PriorityQueue<Row> open = new PriorityQueue<>();
        Set<Integer> closed = new HashSet<>();
        int first = grass.contains(socket) ? 1 << grass.indexOf(socket) : 0;
        open.add(new Row(0, "", socket, 0, first));
        while (!open.isEmpty()) {
            Row row = open.poll();
            if (row.seen == all) {
                return row;
            }
            if (!closed.add((row.seen * 36 + row.cell) * 4 + row.look)) {
                continue;
            }
            for (int way = 0; way < 4; way++) {
                int down = row.cell / 6 + DOWN[way];
                int right = row.cell % 6 + RIGHT[way];
                if (down < 0 || down > 5 || right < 0 || right > 5 || cells[down * 6 + right] == 'x') {
                    continue;
                }
                int to = down * 6 + right;
                int quarters = Math.abs(way - row.look) == 3 ? 1 : Math.abs(way - row.look);
                int minutes = row.minutes + quarters * turn + (way == 0 && cells[to] == 'l' ? climb : 1);
                int seen = grass.contains(to) ? row.seen | 1 << grass.indexOf(to) : row.seen;
                open.add(new Row(minutes, row.ways + way, to, way, seen));
            }
        }
        return null;
    }

    static void tell(LawnTrees x, String text) {
        x.end(0);
        for (int i = 0; i < text.length(); i += 8) {
            long v = 0;
            for (int k = i; k < i + 8; k++) {
                v = v << 8 | (k < text.length() ? text.charAt(k) : ' ');
            }
            x.feed(v);
        }
        x.end(text.length());
    }

    private static char[] someCells(Random chance) {
        char[] cells = new char[36];
        int walls = chance.nextInt(5);
        for (int c = 0; c < 36; c++) {
            cells[c] = chance.nextInt(10) < walls ? 'x' : chance.nextInt(12) == 0 ? 'h' : 'b';
        }
        int grass = chance.nextInt(8);
        for (int i = 0; i < grass; i++) {
            cells[chance.nextInt(36)] = chance.nextBoolean() ? 'g' : 'l';
        }
        return cells;
    }

    /** Grass at the ends of narrow paths: ways with many MOVES. */
    private static char[] someMaze(Random chance) {
        char[] cells = new char[36];
        for (int c = 0; c < 36; c++) {
            cells[c] = chance.nextInt(5) < 2 ? 'x' : 'b';
        }
        int grass = 0;
        for (int c = 0; c < 36 && grass < 7; c++) {
            int open = 0;
            for (int way = 0; way < 4; way++) {
                int down = c / 6 + DOWN[way];
                int right = c % 6 + RIGHT[way];
                boolean isInside = down >= 0 && down <= 5 && right >= 0 && right <= 5;
                open += isInside && cells[down * 6 + right] != 'x' ? 1 : 0;
            }
            if (cells[c] == 'b' && open == 1) {
                cells[c] = 'g';
                grass++;
            }
        }
        return cells;
    }

    private static void tryOne(LawnTrees x, Random chance, boolean isWhole, boolean isMaze) {
        char[] cells = isMaze ? someMaze(chance) : someCells(chance);
        int socket = chance.nextInt(36);
        if (cells[socket] == 'x') {
            cells[socket] = 'b';
        }
        int turn = chance.nextInt(4);
        int climb = 1 + chance.nextInt(4);
        tryGarden(x, cells, new int[] {socket, turn, climb}, isWhole, isMaze);
    }

    /** One that is told by its 36 letters; its rules are the socket, turn and climb. */
    private static void tryGarden(LawnTrees x, char[] cells, int[] rules, boolean isWhole, boolean isMaze) {
        int socket = rules[0];
        int turn = rules[1];
        int climb = rules[2];
        StringBuilder text = new StringBuilder();
        for (int row = 0; row < 6; row++) {
            text.append("row ").append(cells, row * 6, 6).append(';');
        }
        text.append("socket ").append(socket).append(";turn ").append(turn).append(";climb ").append(climb).append(';');
        String garden = text.toString();
        tell(x, garden);
        due("garden()", garden, x.garden(), 9);
        if (isMaze && x.adopt() != -3 && x.count(2) < 23) {
            return;
        }
        x.clear();
        Row least = search(cells, socket, turn, climb);
        if (least == null) {
            unreached++;
            due("least(0)", garden, x.least(0), -4);
            due("least(10)", garden, x.least(10), -4);
            due("adopt()", garden, x.adopt(), -4);
            due("dearest(1)", garden, x.dearest(1), -4);
            return;
        }
        found++;
        checkRow(x, garden, least);
        if (isWhole) {
            checkTrees(x, garden, cells, socket, turn, climb, least.minutes);
        }
        checkAdopted(x, garden, least);
    }

    private static void checkRow(LawnTrees x, String garden, Row least) {
        due("least(0)", garden, x.least(0), least.minutes);
        due("least(1)", garden, x.least(1), least.ways.length());
        int quarters = 0;
        int look = 0;
        for (int s = 0; s < least.ways.length(); s++) {
            int way = least.ways.charAt(s) - '0';
            quarters += Math.abs(way - look) == 3 ? 1 : Math.abs(way - look);
            look = way;
            due("least(10 + " + s + ")", garden, x.least(10 + s), way);
        }
        due("least(10 + its steps)", garden, x.least(10 + least.ways.length()), -1);
        due("least(2)", garden, x.least(2), quarters);
    }

    private static void checkTrees(LawnTrees x, String garden, char[] cells, int socket, int turn, int climb, int now) {
        int best = -4;
        int most = 0;
        for (int c = 0; c < 36; c++) {
            if (cells[c] == 'x') {
                cells[c] = 'b';
                int cost = now - search(cells, socket, turn, climb).minutes;
                cells[c] = 'x';
                due("tree(" + c + ")", garden, x.tree(c), cost);
                if (cost > most) {
                    most = cost;
                    best = c;
                }
            } else {
                due("tree(" + c + ")", garden, x.tree(c), -1);
            }
        }
        due("dearest(0)", garden, x.dearest(0), best);
        due("dearest(1)", garden, x.dearest(1), best < 0 ? -4 : most);
        costly += best < 0 ? 0 : 1;
        due("least(0), asked again", garden, x.least(0), now);
    }

    private static void checkAdopted(LawnTrees x, String garden, Row least) {
        List<int[]> moves = new ArrayList<>();
        for (int s = 0; s < least.ways.length(); s++) {
            int way = least.ways.charAt(s) - '0';
            int[] last = moves.isEmpty() ? null : moves.get(moves.size() - 1);
            if (last != null && last[0] == way && last[1] < 5) {
                last[1]++;
            } else {
                moves.add(new int[] {way, 1});
            }
        }
        if (moves.size() > 24) {
            full++;
            due("adopt()", garden, x.adopt(), -3);
            due("count(2)", garden, x.count(2), 0);
            return;
        }
        longest = Math.max(longest, moves.size());
        due("adopt()", garden, x.adopt(), moves.size());
        due("count(2)", garden, x.count(2), moves.size());
        for (int i = 0; i < moves.size(); i++) {
            due("moved(" + i + ", 0)", garden, x.moved(i, 0), moves.get(i)[0]);
            due("moved(" + i + ", 1)", garden, x.moved(i, 1), moves.get(i)[1]);
        }
        due("run(0, 0) of what was adopted", garden, x.run(0, 2), least.ways.length());
    }

    public static void main(String[] args) {
        Random chance = new Random(36);
        LawnTrees x = new LawnTrees();
        for (int i = 0; i < 1500; i++) {
            tryOne(x, chance, i % 12 == 0, false);
        }
        for (int i = 0; i < 80000; i++) {
            tryOne(x, chance, false, true);
        }
        for (int i = 0; i < LONG.length; i++) {
            tryGarden(x, LONG[i].toCharArray(), LONG_RULES[i], true, false);
            due("least(1)", LONG[i], x.least(1), i < 2 ? 46 : 48);
        }
        System.out.println("least: " + found + " found, " + unreached + " not reached, " + costly + " with a dearest, "
            + full + " of too many MOVES, " + longest + " MOVES the most that were adopted");
        if (wrong != 0 || found < 500 || unreached < 100 || costly < 20 || full == 0 || longest < 24) {
            System.exit(1);
        }
    }
}
