import java.util.Arrays;
import java.util.HashMap;
import java.util.HashSet;
import java.util.List;
import java.util.Map;
import java.util.Random;
import java.util.Set;
import java.util.TreeMap;
import java.util.regex.Matcher;
import java.util.regex.Pattern;

/** Promises 2 to 7: texts, right ones and ones with something wrong put in, read a second time by patterns. */
public final class TextAgainstModel {
    private static final Pattern TOKEN = Pattern.compile(
        " *(?:(?<name>[a-z]+)|(?<number>[0-9]+)|(?<sign>;)|(?<end>\\z)|(?<other>(?s:.)))");
    private static final List<String> NAMES = List.of("socket", "turn", "climb", "bag", "empty", "cord", "dew", "high");
    private static final int[] FROM = {0, 0, 1, 1, 0, 1, 0, 0};
    private static final int[] TO = {35, 3, 4, 200, 9, 99, 999, 60};
    private static int wrong = 0;

    @SuppressWarnings("serial")
    private static final class Fault extends RuntimeException {
        final int number;
        final int place;

        Fault(int number, int place) {
            super(null, null, false, false);
            this.number = number;
            this.place = place;
        }
    }

    /** What a text tells; making one stops by a Fault. */
    private static final class Told {
        final String text;
        final Matcher m;
        int at = 0;
        int lines = 0;
        String rows = "";
        final int[] values = {0, 1, 2, 30, 2, 20, 0, 3};
        final int[] sun = new int[36];

        Told(String text) {
            this.text = text;
            m = TOKEN.matcher(text);
            Arrays.fill(sun, 3);
            Set<String> told = new HashSet<>();
            while (true) {
                String name = take("name", true);
                if (name == null) {
                    break;
                }
                if (!name.equals("row") && !name.equals("sun") && !NAMES.contains(name)) {
                    throw new Fault(2, m.start("name"));
                }
                if (name.equals("row") && rows.length() == 36) {
                    throw new Fault(5, m.start("name"));
                }
                if (name.equals("row")) {
                    row();
                } else if (!told.add(name) && !name.equals("sun")) {
                    throw new Fault(4, m.start("name"));
                } else if (name.equals("sun")) {
                    int c = number(0, 35);
                    if (!told.add("sun of " + c)) {
                        throw new Fault(4, m.start("number"));
                    }
                    sun[c] = number(0, 9);
                } else {
                    int i = NAMES.indexOf(name);
                    values[i] = number(FROM[i], TO[i]);
                }
                take("sign", false);
                lines++;
            }
            rows += "g".repeat(36 - rows.length());
            if (rows.charAt(values[0]) == 'x') {
                throw new Fault(6, text.length());
            }
        }

        private String take(String group, boolean mayEnd) {
            m.region(at, text.length());
            if (!m.lookingAt()) {
                throw new IllegalStateException(text);
            }
            at = m.end();
            if (m.group("other") != null) {
                throw new Fault(1, m.start("other"));
            }
            if (m.group("number") != null && m.group("number").length() > 3) {
                throw new Fault(1, m.start("number"));
            }
            if (m.group("end") != null) {
                if (mayEnd) {
                    return null;
                }
                throw new Fault(2, text.length());
            }
            if (m.group(group) == null) {
                throw new Fault(2, Math.max(m.start("name"), Math.max(m.start("number"), m.start("sign"))));
            }
            return m.group(group);
        }

        private void row() {
            String s = take("name", false);
            if (!s.matches("[glxbh]{6}")) {
                throw new Fault(3, m.start("name"));
            }
            rows += s;
        }

        private int number(int from, int to) {
            int n = Integer.parseInt(take("number", false));
            if (n < from || n > to) {
                throw new Fault(3, m.start("number"));
            }
            return n;
        }
    }

    private static String someText(Random r) {
        StringBuilder text = new StringBuilder();
        int lines = r.nextInt(12);
        int beside = r.nextInt(30);
        int many = r.nextInt(3);
        Set<Integer> had = new HashSet<>();
        for (int i = 0; i < lines; i++) {
            int kind = many == 0 ? 8 + r.nextInt(30) / 29 : r.nextInt(10);
            if (kind < 8 && !had.add(kind) && r.nextInt(9) > 0) {
                continue;
            }
            text.append(blanks(r, 0));
            if (kind == 8) {
                text.append("row").append(blanks(r, 1));
                for (int c = beside == 0 ? r.nextInt(8) : 6; c > 0; c--) {
                    text.append("glxbhglbhglbhz".charAt(r.nextInt(beside == 1 ? 14 : 13)));
                }
            } else if (kind == 9) {
                text.append("sun").append(blanks(r, 0)).append(some(r, 0, 35, beside)).append(blanks(r, 1));
                text.append(some(r, 0, 9, beside));
            } else {
                text.append(NAMES.get(kind)).append(blanks(r, 0)).append(some(r, FROM[kind], TO[kind], beside));
            }
            text.append(blanks(r, 0)).append(';');
        }
        text.append(blanks(r, 0));
        for (int i = r.nextInt(4) - 1; i > 0 && text.length() > 0; i--) {
            spoil(r, text);
        }
        if (text.length() > 320) {
            text.setLength(320);
        }
        return text.toString();
    }

    private static void spoil(Random r, StringBuilder text) {
        int place = r.nextInt(text.length());
        String put = "; a7x\tZ_{`/:<\0\u00e9\u00ff";
        switch (r.nextInt(4)) {
            case 0 -> text.deleteCharAt(place);
            case 1 -> text.insert(place, put.charAt(r.nextInt(put.length())));
            case 2 -> text.setCharAt(place, put.charAt(r.nextInt(put.length())));
            default -> text.setLength(place);
        }
    }

    private static String blanks(Random r, int least) {
        return " ".repeat(least + (r.nextInt(3) == 0 ? r.nextInt(3) : 0));
    }

    private static String some(Random r, int from, int to, int beside) {
        int n = beside == 2 && r.nextInt(8) == 0 ? to + 1 : beside == 3 && from > 0 ? from - 1
            : from + r.nextInt(to - from + 1);
        String s = Integer.toString(n);
        return r.nextInt(6) == 0 ? "0".repeat(Math.max(0, 3 - s.length())) + s : s;
    }

    private static void due(String text, String call, long got, long want) {
        if (got != want) {
            wrong++;
            System.out.println("\"" + text + "\": " + call + " answered " + got + ", due is " + want);
        }
    }

    private static void feed(LawnTrees x, String text) {
        due(text, "end(0)", x.end(0), 0);
        for (int i = 0; i < text.length(); i += 8) {
            long v = 0;
            for (int k = i; k < i + 8; k++) {
                v = v << 8 | (k < text.length() ? text.charAt(k) : ';');
            }
            due(text, "feed", x.feed(v), i + 8);
        }
        int fed = (text.length() + 7) / 8 * 8;
        due(text, "end", x.end(text.length()), fed);
    }

    private static void compare(LawnTrees x, String text, Told told) {
        for (int i = 0; i < 7; i++) {
            due(text, "rule(" + i + ")", x.rule(i), told.values[i]);
        }
        for (int c = 0; c < 36; c++) {
            int kind = "glxbh".indexOf(told.rows.charAt(c));
            due(text, "cell(" + c + ",0)", x.cell(c, 0), kind);
            due(text, "cell(" + c + ",1)", x.cell(c, 1), kind < 2 ? told.values[7] : 0);
            due(text, "cell(" + c + ",2)", x.cell(c, 2), told.sun[c]);
            due(text, "cell(" + c + ",3)", x.cell(c, 3), -4);
        }
    }

    public static void main(String[] args) {
        Random r = new Random(320);
        Map<Integer, Integer> met = new TreeMap<>();
        LawnTrees x = new LawnTrees();
        Told last = new Told("");
        for (int i = 0; i < 40000 && wrong < 20; i++) {
            String text = someText(r);
            feed(x, text);
            try {
                Told told = new Told(text);
                due(text, "garden()", x.garden(), told.lines);
                due(text, "fault()", x.fault(), 0);
                last = told;
                met.merge(0, 1, Integer::sum);
            } catch (Fault f) {
                due(text, "garden()", x.garden(), -10 - f.place);
                due(text, "fault()", x.fault(), f.number);
                met.merge(f.number, 1, Integer::sum);
            }
            due(text, "count(4)", x.count(4), 0);
            if (i % 10 == 0) {
                compare(x, text, last);
            }
        }
        System.out.println("texts by their fault: " + met);
        if (wrong != 0 || met.size() != 7) {
            System.exit(1);
        }
    }
}
