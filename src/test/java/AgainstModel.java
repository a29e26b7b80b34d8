import java.math.BigInteger;
import java.util.ArrayList;
import java.util.Arrays;
import java.util.HashMap;
import java.util.HashSet;
import java.util.List;
import java.util.Map;
import java.util.Random;
import java.util.Set;
import java.util.TreeSet;

/** Random runs of calls, each answered a second time by a slow model that says the promises in other words. */
public final class AgainstModel {
    private static final int BAD = -1, STATE = -2, FULL = -3, NONE = -4;
    private static int wrong = 0;
    private static final Map<String, Set<Long>> ANSWERS = new HashMap<>();

    /** What the garden is: all of it that an image does not keep stands in the text's half. */
    private static final class Model {
        char[] kind = "g".repeat(36).toCharArray();
        int[] height = new int[36];
        int[] picture = new int[36];
        int[] sun = new int[36];
        int socket = 0, turn = 1, climb = 2, bag = 30, empty = 2, cord = 20, dew = 0;
        List<int[]> moves = new ArrayList<>();
        Object[][] images = new Object[2][];
        Object[] sheets = new Object[4];
        int torn = 0;

        Model() {
            Arrays.fill(height, 3);
            Arrays.fill(sun, 3);
            Arrays.fill(picture, NONE);
        }

        boolean grass(int c) {
            return kind[c] == 'g' || kind[c] == 'l';
        }

        int grassCount() {
            int n = 0;
            for (int c = 0; c < 36; c++) {
                n += grass(c) ? 1 : 0;
            }
            return n;
        }

        /** The cell ahead, or -1. */
        int next(int c, int way) {
            int down = c / 6 + (way == 0 ? -1 : way == 2 ? 1 : 0);
            int right = c % 6 + (way == 3 ? -1 : way == 1 ? 1 : 0);
            boolean inside = down >= 0 && down <= 5 && right >= 0 && right <= 5;
            return inside && kind[down * 6 + right] != 'x' ? down * 6 + right : -1;
        }

        int cell(int c, int what) {
            if (c < 0 || c > 35 || what < 0 || what > 3) {
                return BAD;
            }
            return new int[] {"glxbh".indexOf(kind[c]), grass(c) ? height[c] : 0, sun[c], picture[c]}[what];
        }

        int put(int c, int v) {
            if (c < 0 || c > 35 || v < 0 || v > 4) {
                return BAD;
            }
            if (c == socket && v == 2) {
                return STATE;
            }
            int was = "glxbh".indexOf(kind[c]);
            if (was != v) {
                kind[c] = "glxbh".charAt(v);
                height[c] = 0;
                picture[c] = NONE;
            }
            return was;
        }

        int move(int way, int steps) {
            if (way < 0 || way > 3 || steps < 1 || steps > 5) {
                return BAD;
            }
            if (moves.size() == 24) {
                return FULL;
            }
            moves.add(new int[] {way, steps});
            return moves.size();
        }

        /** Ten numbers as run tells them; heights and pictures are changed in the rows that are given. */
        int[] go(int minute, int room, int[] h, int[] p) {
            int[] r = new int[10];
            int now = minute;
            int at = socket;
            int look = 0;
            walk:
            for (int[] m : moves) {
                int quarters = Math.min(Math.floorMod(m[0] - look, 4), Math.floorMod(look - m[0], 4));
                r[7] += quarters;
                now += quarters * turn;
                look = m[0];
                for (int s = 0; s < m[1]; s++) {
                    int to = next(at, look);
                    if (to < 0) {
                        r[3] = 1;
                        break walk;
                    }
                    now += look == 0 && kind[to] == 'l' ? climb : 1;
                    at = to;
                    r[2]++;
                    if (kind[at] == 'h' && r[5] > 0) {
                        r[5] = 0;
                        r[4]++;
                        now += empty;
                    } else if (grass(at) && h[at] > 0) {
                        if (now < dew) {
                            r[8]++;
                        } else if (r[5] + h[at] > room) {
                            r[9]++;
                        } else {
                            r[5] += h[at];
                            h[at] = 0;
                            p[at] = look;
                            r[1]++;
                        }
                    }
                }
            }
            r[0] = now - minute;
            r[6] = at;
            return r;
        }

        int run(int minute, int what) {
            if (minute < 0 || minute > 999 || what < 0 || what > 9) {
                return BAD;
            }
            return go(minute, bag, height.clone(), picture.clone())[what];
        }

        int mow(int minute) {
            return minute < 0 || minute > 999 ? BAD : go(minute, bag, height, picture)[1];
        }

        int begin() {
            for (int minute = 0; minute <= 999; minute++) {
                if (run(minute, 8) == 0) {
                    return minute;
                }
            }
            return NONE;
        }

        int need(int minute) {
            if (minute < 0 || minute > 999) {
                return BAD;
            }
            for (int room = 1; room <= 999; room++) {
                if (go(minute, room, height.clone(), picture.clone())[9] == 0) {
                    return room;
                }
            }
            return NONE;
        }

        /** The cells of all steps that go. */
        List<Integer> trail() {
            List<Integer> trail = new ArrayList<>();
            int at = socket;
            for (int[] m : moves) {
                for (int s = 0; s < m[1]; s++) {
                    at = next(at, m[0]);
                    if (at < 0) {
                        return trail;
                    }
                    trail.add(at);
                }
            }
            return trail;
        }

        /** Length, bits, crossings, longest behind s steps, drawn anew each time. */
        long[] drawn(List<Integer> trail, int s) {
            List<Integer> lies = new ArrayList<>(List.of(socket));
            long[] r = new long[4];
            for (int c : trail.subList(0, s)) {
                if (lies.size() > 1 && lies.get(lies.size() - 2) == c) {
                    lies.remove(lies.size() - 1);
                } else {
                    r[2] += lies.contains(c) ? 1 : 0;
                    lies.add(c);
                }
                r[3] = Math.max(r[3], lies.size() - 1);
            }
            r[0] = lies.size() - 1;
            for (int c : lies) {
                r[1] |= 1L << c;
            }
            return r;
        }

        long cord(int s, int what) {
            List<Integer> trail = trail();
            return s < 0 || s > trail.size() || what < 0 || what > 3 ? BAD : drawn(trail, s)[what];
        }

        int trips(int what) {
            if (what != 0 && what != 1) {
                return BAD;
            }
            List<Integer> trail = trail();
            for (int s = 1; s <= trail.size(); s++) {
                long[] r = drawn(trail, s);
                if (what == 0 ? r[2] > 0 : r[0] > cord) {
                    return s;
                }
            }
            return NONE;
        }

        /** All ways at once, by Floyd and Warshall. */
        int[][] distances() {
            int[][] d = new int[36][36];
            for (int a = 0; a < 36; a++) {
                Arrays.fill(d[a], 1000);
                if (kind[a] != 'x') {
                    d[a][a] = 0;
                    for (int way = 0; way < 4; way++) {
                        if (next(a, way) >= 0) {
                            d[a][next(a, way)] = 1;
                        }
                    }
                }
            }
            for (int m = 0; m < 36; m++) {
                for (int a = 0; a < 36; a++) {
                    for (int b = 0; b < 36; b++) {
                        d[a][b] = Math.min(d[a][b], d[a][m] + d[m][b]);
                    }
                }
            }
            return d;
        }

        int steps(int a, int b) {
            if (a < 0 || a > 35 || b < 0 || b > 35) {
                return BAD;
            }
            int d = distances()[a][b];
            return d < 1000 ? d : NONE;
        }

        long beyond() {
            long bits = 0;
            int[] d = distances()[socket];
            for (int c = 0; c < 36; c++) {
                bits |= grass(c) && d[c] > cord ? 1L << c : 0;
            }
            return bits;
        }

        int middle(int what) {
            if (what != 0 && what != 1) {
                return BAD;
            }
            int[][] d = distances();
            for (int far = 0; far < 1000 && grassCount() > 0; far++) {
                for (int a = 0; a < 36; a++) {
                    boolean reaches = kind[a] != 'x';
                    for (int c = 0; c < 36; c++) {
                        reaches &= !grass(c) || d[a][c] <= far;
                    }
                    if (reaches) {
                        return what == 0 ? a : far;
                    }
                }
            }
            return NONE;
        }

        /** Cell, way, cells been, bits, strikes, seed, cells of grass been. */
        long[] robot(int c, int way, int rule, int seed, int n) {
            Set<Integer> been = new TreeSet<>(List.of(c));
            int strikes = 0;
            for (int i = 0; i < n; i++) {
                int to = next(c, way);
                if (to >= 0) {
                    c = to;
                    been.add(c);
                    continue;
                }
                strikes++;
                if (rule == 3) {
                    seed = seed * 1103515245 + 12345;
                    way = (seed >>> 16) & 3;
                } else {
                    way = (way + new int[] {1, 3, 2}[rule]) % 4;
                }
            }
            long bits = 0;
            int green = 0;
            for (int b : been) {
                bits |= 1L << b;
                green += grass(b) ? 1 : 0;
            }
            return new long[] {c, way, been.size(), bits, strikes, seed, green};
        }

        /** 0 if a robot can be there, else what is answered. */
        int robotRefused(int c, int way, int rule, int rules) {
            if (c < 0 || c > 35 || way < 0 || way > 3 || rule < 0 || rule > rules) {
                return BAD;
            }
            return kind[c] == 'x' ? STATE : 0;
        }

        long robot(int c, int way, int rule, int seed, int n, int what) {
            int refused = robotRefused(c, way, rule, 3);
            if (refused == BAD || n < 0 || n > 999 || what < 0 || what > 5) {
                return BAD;
            }
            return refused != 0 ? refused : robot(c, way, rule, seed, n)[what];
        }

        int until(int c, int way, int rule, int seed, int a, int b) {
            int refused = robotRefused(c, way, rule, 3);
            if (refused == BAD || b < 1 || b > 99 || a < 0 || a > b) {
                return BAD;
            }
            if (refused != 0) {
                return refused;
            }
            // By halves: what it has been in only grows.
            if (robot(c, way, rule, seed, 999)[6] * b < (long) a * grassCount()) {
                return NONE;
            }
            int low = -1;
            int high = 999;
            while (high - low > 1) {
                int n = (low + high) / 2;
                if (robot(c, way, rule, seed, n)[6] * b >= (long) a * grassCount()) {
                    high = n;
                } else {
                    low = n;
                }
            }
            return high;
        }

        long never(int c, int way, int rule) {
            int refused = robotRefused(c, way, rule, 2);
            if (refused != 0) {
                return refused;
            }
            long been = robot(c, way, rule, 0, 5000)[3];
            long bits = 0;
            for (int g = 0; g < 36; g++) {
                bits |= grass(g) && (been >> g & 1) == 0 ? 1L << g : 0;
            }
            return bits;
        }

        int best(int c, int way, int seed, int n, int what) {
            int refused = robotRefused(c, way, 0, 3);
            if (refused == BAD || n < 0 || n > 999 || what < 0 || what > 1) {
                return BAD;
            }
            if (refused != 0) {
                return refused;
            }
            int best = 3;
            for (int rule = 2; rule >= 0; rule--) {
                best = robot(c, way, rule, seed, n)[6] >= robot(c, way, best, seed, n)[6] ? rule : best;
            }
            return what == 0 ? best : (int) robot(c, way, best, seed, n)[6];
        }

        /** In how many of 4 to the power of n ways the goal is met, each step taken as if it drew. */
        BigInteger met(int c, int way, int goal, int n, Map<Integer, BigInteger> known) {
            if (c == goal) {
                return BigInteger.valueOf(4).pow(n);
            }
            if (n == 0) {
                return BigInteger.ZERO;
            }
            int key = (n * 36 + c) * 4 + way;
            if (!known.containsKey(key)) {
                int to = next(c, way);
                BigInteger sum = BigInteger.ZERO;
                for (int drawn = 0; drawn < 4; drawn++) {
                    sum = sum.add(to >= 0 ? met(to, way, goal, n - 1, known) : met(c, drawn, goal, n - 1, known));
                }
                known.put(key, sum);
            }
            return known.get(key);
        }

        long odds(int c, int way, int goal, int n, int what) {
            int refused = robotRefused(c, way, 0, 3);
            if (refused == BAD || goal < 0 || goal > 35 || n < 0 || n > 20 || what < 0 || what > 1) {
                return BAD;
            }
            if (refused != 0) {
                return refused;
            }
            BigInteger all = BigInteger.valueOf(4).pow(n);
            BigInteger met = met(c, way, goal, n, new HashMap<>());
            BigInteger common = all.gcd(met);
            return (what == 0 ? met : all).divide(common).longValueExact();
        }

        int week(int n) {
            if (n < 1 || n > 99) {
                return BAD;
            }
            int most = 0;
            for (int c = 0; c < 36; c++) {
                for (int i = 0; i < n && grass(c); i++) {
                    height[c] = Math.min(60, height[c] + sun[c]);
                }
                most = Math.max(most, grass(c) ? height[c] : 0);
            }
            return most;
        }

        long high(int v, int what) {
            if (v < 0 || v > 60 || what < 0 || what > 1) {
                return BAD;
            }
            long bits = 0;
            for (int c = 0; c < 36; c++) {
                boolean is = grass(c) && height[c] > v;
                boolean will = grass(c) && Math.min(60, height[c] + sun[c]) > v;
                bits |= (what == 0 ? is : will && !is) ? 1L << c : 0;
            }
            return bits;
        }

        int weeks(int v) {
            if (v < 0 || v > 60) {
                return BAD;
            }
            int least = NONE;
            for (int c = 0; c < 36; c++) {
                if (grass(c) && height[c] > v) {
                    return 0;
                }
                if (grass(c) && sun[c] > 0 && v < 60) {
                    int n = (v - height[c]) / sun[c] + 1;
                    least = least == NONE ? n : Math.min(least, n);
                }
            }
            return least;
        }

        int stripes(int what) {
            if (what < 0 || what > 2) {
                return BAD;
            }
            int[] n = new int[3];
            for (int c = 0; c < 36; c++) {
                if (grass(c)) {
                    n[picture[c] == NONE ? 2 : picture[c] == (c % 2 == 0 ? 0 : 2) ? 0 : 1]++;
                }
            }
            return n[what];
        }

        int keep(int k) {
            if (k < 0 || k > 1) {
                return BAD;
            }
            int had = images[k] == null ? 0 : 1;
            images[k] = new Object[] {kind.clone(), height.clone(), picture.clone(), new ArrayList<>(moves)};
            return had;
        }

        @SuppressWarnings("unchecked")
        int back(int k) {
            if (k < 0 || k > 1) {
                return BAD;
            }
            if (images[k] == null || ((char[]) images[k][0])[socket] == 'x') {
                return STATE;
            }
            kind = ((char[]) images[k][0]).clone();
            height = ((int[]) images[k][1]).clone();
            picture = ((int[]) images[k][2]).clone();
            moves = new ArrayList<>((List<int[]>) images[k][3]);
            return moves.size();
        }

        int sheet(int k, int lane, int n) {
            if (k < 0 || k > 3 || lane < 0 || lane > 2 || n > 48) {
                return BAD;
            }
            if (n < 0) {
                return -14;
            }
            sheets[k] = lane == 0 ? new byte[n] : lane == 1 ? new short[n] : (Object) new int[n];
            return 1;
        }

        int lay(int k, int i, int v) {
            if (k < 0 || k > 3) {
                return BAD;
            }
            try {
                if (sheets[k] instanceof byte[] b) {
                    b[i] = (byte) v;
                } else if (sheets[k] instanceof short[] s) {
                    s[i] = (short) v;
                } else {
                    ((int[]) sheets[k])[i] = v;
                }
                return 1;
            } catch (NullPointerException e) {
                return -11;
            } catch (ArrayIndexOutOfBoundsException e) {
                return -12;
            }
        }

        /** What the machine itself finds when the sheet is taken as of a lane. */
        static int taken(Object sheet, int lane, int i) {
            return lane == 0 ? ((byte[]) sheet)[i] : lane == 1 ? ((short[]) sheet)[i] : ((int[]) sheet)[i];
        }

        int read(int k, int lane, int f, int n) {
            if (k < 0 || k > 3 || lane < 0 || lane > 2 || n < 0 || n > 24) {
                return BAD;
            }
            List<int[]> had = new ArrayList<>(moves);
            int fault = 0;
            int came = 0;
            try {
                for (int i = 0; i < n; i++) {
                    int answer = move(taken(sheets[k], lane, f + 2 * i), taken(sheets[k], lane, f + 2 * i + 1));
                    if (answer < 0) {
                        moves = had;
                        return answer == BAD ? -20 - i : FULL;
                    }
                    came++;
                }
            } catch (NullPointerException e) {
                fault = 1;
            } catch (ArrayIndexOutOfBoundsException e) {
                fault = 2;
            } catch (ClassCastException e) {
                fault = 3;
            }
            torn = fault;
            return came;
        }

        long count(int what) {
            int images = (this.images[0] == null ? 0 : 1) + (this.images[1] == null ? 0 : 1);
            int sum = 0;
            for (int c = 0; c < 36; c++) {
                sum += grass(c) ? height[c] : 0;
            }
            int barred = new String(kind).replaceAll("[^x]", "").length();
            Object s = sheets[0];
            int size = s == null ? NONE : java.lang.reflect.Array.getLength(s);
            long[] all = {grassCount(), barred, moves.size(), images, 0, size, sum};
            return what < 0 || what > 6 ? BAD : all[what];
        }

        /** Takes a text that is right. */
        void take(String text) {
            Model fresh = new Model();
            int row = 0;
            int high = 3;
            for (String line : text.split(";")) {
                String[] words = line.trim().split(" +");
                int n = words.length > 1 && !words[0].equals("row") ? Integer.parseInt(words[1]) : 0;
                switch (words[0]) {
                    case "row" -> System.arraycopy(words[1].toCharArray(), 0, fresh.kind, 6 * row++, 6);
                    case "socket" -> fresh.socket = n;
                    case "turn" -> fresh.turn = n;
                    case "climb" -> fresh.climb = n;
                    case "bag" -> fresh.bag = n;
                    case "empty" -> fresh.empty = n;
                    case "cord" -> fresh.cord = n;
                    case "dew" -> fresh.dew = n;
                    case "high" -> high = n;
                    case "sun" -> fresh.sun[n] = Integer.parseInt(words[2]);
                    default -> { }
                }
            }
            kind = fresh.kind;
            sun = fresh.sun;
            picture = fresh.picture;
            for (int c = 0; c < 36; c++) {
                height[c] = grass(c) ? high : 0;
            }
            socket = fresh.socket;
            turn = fresh.turn;
            climb = fresh.climb;
            bag = fresh.bag;
            empty = fresh.empty;
            cord = fresh.cord;
            dew = fresh.dew;
            moves.clear();
        }
    }

    private static String someText(Random r) {
        StringBuilder text = new StringBuilder();
        int rows = r.nextInt(7);
        int walls = r.nextInt(4);
        int socket = r.nextInt(36);
        for (int c = 0; c < 6 * rows; c++) {
            text.append(c % 6 == 0 ? "row " : "");
            boolean wall = r.nextInt(10) < walls && c != socket;
            text.append(wall ? 'x' : "ggglllbhg".charAt(r.nextInt(9))).append(c % 6 == 5 ? ";" : "");
        }
        text.append("socket ").append(socket).append(" ; ");
        String[] names = {"turn", "climb", "bag", "empty", "cord", "dew", "high"};
        int[] from = {0, 1, 1, 0, 1, 0, 0};
        int[] to = {3, 4, 60, 9, 12, 60, 60};
        for (int i = 0; i < names.length; i++) {
            if (r.nextInt(3) > 0) {
                text.append(names[i]).append(' ').append(from[i] + r.nextInt(to[i] - from[i] + 1)).append(';');
            }
        }
        for (int i = r.nextInt(4); i > 0; i--) {
            text.append("sun ").append(i * 7 + r.nextInt(7)).append(' ').append(r.nextInt(10)).append(';');
        }
        return text.toString();
    }

    static void tell(LawnTrees x, String text) {
        for (int i = 0; i < text.length(); i += 8) {
            long v = 0;
            for (int k = i; k < i + 8; k++) {
                v = v << 8 | (k < text.length() ? text.charAt(k) : ' ');
            }
            x.feed(v);
        }
        x.end(text.length());
    }

    /** A number mostly within its bounds, now and then just beside them. */
    private static int some(Random r, int from, int to) {
        int dice = r.nextInt(25);
        return dice == 0 ? from - 1 : dice == 1 ? to + 1 : from + r.nextInt(to - from + 1);
    }

    private static void due(String call, long got, long want) {
        ANSWERS.computeIfAbsent(call.substring(0, call.indexOf('(')), k -> new HashSet<>()).add(want);
        if (got != want) {
            wrong++;
            System.out.println(call + " answered " + got + ", due is " + want);
        }
    }

    private static void change(LawnTrees x, Model m, Random r) {
        int a = some(r, 0, 35);
        int b = some(r, 0, 4);
        int k = some(r, 0, 3);
        int n = some(r, 0, 48);
        int lane = some(r, 0, 2);
        int v = r.nextInt(3) == 0 ? r.nextInt() : r.nextInt(6) + 256 * r.nextInt(2) + 65536 * r.nextInt(2);
        int way = r.nextInt(4);
        int minute = some(r, 0, r.nextBoolean() ? 50 : 999);
        int i = some(r, 0, 3) == 0 ? r.nextInt() : some(r, 0, 9);
        switch (r.nextInt(16)) {
            case 0 -> due("put(" + a + "," + b + ")", x.put(a, b), m.put(a, b));
            case 1, 2, 3, 4 -> {
                int steps = some(r, 1, 5);
                int side = some(r, 0, 3);
                due("move(" + side + "," + steps + ")", x.move(side, steps), m.move(side, steps));
            }
            case 5 -> {
                if (r.nextInt(4) == 0) {
                    int had = m.moves.size();
                    m.moves.clear();
                    due("clear()", x.clear(), had);
                }
            }
            case 6 -> due("mow(" + minute + ")", x.mow(minute), m.mow(minute));
            case 7 -> {
                int weeks = some(r, 1, r.nextBoolean() ? 3 : 99);
                due("week(" + weeks + ")", x.week(weeks), m.week(weeks));
            }
            case 8 -> due("keep(" + k / 2 + ")", x.keep(k / 2), m.keep(k / 2));
            case 9 -> due("back(" + k / 2 + ")", x.back(k / 2), m.back(k / 2));
            case 10 -> due("sheet(" + k + "," + lane + "," + n + ")", x.sheet(k, lane, n), m.sheet(k, lane, n));
            case 11, 12, 13 -> {
                for (int t = 0; t < 4; t++) {
                    due("lay(" + k + "," + i + "," + v + ")", x.lay(k, i, v), m.lay(k, i, v));
                    i = Math.max(0, i + 1);
                    v = t % 2 == 0 ? 1 + r.nextInt(5) : way;
                }
            }
            default -> {
                int f = r.nextInt(9) == 0 ? Integer.MAX_VALUE - r.nextInt(9) : some(r, 0, 9);
                n = some(r, 0, r.nextBoolean() ? 3 : 24);
                due("read(" + k + "," + lane + "," + f + "," + n + ")", x.read(k, lane, f, n), m.read(k, lane, f, n));
            }
        }
    }

    private static void askOfWays(LawnTrees x, Model m, Random r) {
        int minute = some(r, 0, r.nextBoolean() ? 50 : 999);
        for (int what = -1; what <= 10; what++) {
            due("run(" + minute + "," + what + ")", x.run(minute, what), m.run(minute, what));
        }
        due("need(" + minute + ")", x.need(minute), m.need(minute));
        due("begin()", x.begin(), m.begin());
        int s = r.nextBoolean() ? some(r, 0, m.trail().size()) : some(r, 0, 120);
        for (int what = -1; what <= 4; what++) {
            due("cord(" + s + "," + what + ")", x.cord(s, what), m.cord(s, what));
        }
        for (int what = -1; what <= 2; what++) {
            due("trips(" + what + ")", x.trips(what), m.trips(what));
        }
        int i = some(r, 0, 24);
        boolean isMove = i >= 0 && i < m.moves.size();
        due("moved(" + i + ",0)", x.moved(i, 0), isMove ? m.moves.get(i)[0] : BAD);
        due("moved(" + i + ",1)", x.moved(i, 1), isMove ? m.moves.get(i)[1] : BAD);
    }

    private static void askOfPlaces(LawnTrees x, Model m, Random r) {
        int a = some(r, 0, 35);
        int b = some(r, 0, 35);
        due("steps(" + a + "," + b + ")", x.steps(a, b), m.steps(a, b));
        due("beyond()", x.beyond(), m.beyond());
        for (int what = -1; what <= 2; what++) {
            due("middle(" + what + ")", x.middle(what), m.middle(what));
        }
        for (int what = -1; what <= 4; what++) {
            due("cell(" + a + "," + what + ")", x.cell(a, what), m.cell(a, what));
        }
        for (int what = -1; what <= 7; what++) {
            due("count(" + what + ")", x.count(what), m.count(what));
        }
        due("torn()", x.torn(), m.torn);
        int[] rules = {m.socket, m.turn, m.climb, m.bag, m.empty, m.cord, m.dew};
        for (int what = -1; what <= 7; what++) {
            due("rule(" + what + ")", x.rule(what), what < 0 || what > 6 ? BAD : rules[what]);
        }
    }

    private static void askOfRobots(LawnTrees x, Model m, Random r) {
        int c = some(r, 0, 35);
        int way = some(r, 0, 3);
        int rule = some(r, 0, 3);
        int seed = r.nextInt();
        int n = some(r, 0, r.nextBoolean() ? 40 : 999);
        int b = some(r, 1, 99);
        int a = r.nextBoolean() ? some(r, 0, Math.max(0, b)) : Math.max(0, b) / (2 + r.nextInt(3));
        int goal = some(r, 0, 35);
        int few = some(r, 0, 20);
        String robot = c + "," + way + "," + rule + "," + seed;
        for (int what = -1; what <= 6; what++) {
            due("robot(" + robot + "," + n + "," + what + ")", x.robot(c, way, rule, seed, n, what),
                m.robot(c, way, rule, seed, n, what));
        }
        due("until(" + robot + "," + a + "," + b + ")", x.until(c, way, rule, seed, a, b),
            m.until(c, way, rule, seed, a, b));
        due("never(" + robot + ")", x.never(c, way, rule), m.never(c, way, rule));
        for (int what = -1; what <= 2; what++) {
            due("best(" + robot + "," + n + "," + what + ")", x.best(c, way, seed, n, what),
                m.best(c, way, seed, n, what));
            due("odds(" + c + "," + way + "," + goal + "," + few + "," + what + ")", x.odds(c, way, goal, few, what),
                m.odds(c, way, goal, few, what));
        }
    }

    private static void askOfGrass(LawnTrees x, Model m, Random r) {
        int v = some(r, 0, 60);
        for (int what = -1; what <= 2; what++) {
            due("high(" + v + "," + what + ")", x.high(v, what), m.high(v, what));
        }
        due("weeks(" + v + ")", x.weeks(v), m.weeks(v));
        for (int what = -1; what <= 3; what++) {
            due("stripes(" + what + ")", x.stripes(what), m.stripes(what));
        }
    }

    public static void main(String[] args) {
        Random r = new Random(4);
        for (int run = 0; run < 150 && wrong < 20; run++) {
            LawnTrees x = new LawnTrees();
            Model m = new Model();
            for (int i = 0; i < 120; i++) {
                if (r.nextInt(30) == 0) {
                    String text = someText(r);
                    tell(x, text);
                    m.take(text);
                    due("garden()", x.garden(), text.replaceAll("[^;]", "").length());
                }
                change(x, m, r);
                switch (r.nextInt(5)) {
                    case 0 -> askOfWays(x, m, r);
                    case 1 -> askOfPlaces(x, m, r);
                    case 2 -> askOfRobots(x, m, r);
                    case 3 -> askOfGrass(x, m, r);
                    default -> { }
                }
            }
        }
        ANSWERS.forEach((name, all) -> {
            if (all.size() < 2) {
                wrong++;
                System.out.println("only one answer was ever due of " + name);
            }
        });
        if (wrong != 0) {
            System.exit(1);
        }
    }
}
