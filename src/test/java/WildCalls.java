import java.lang.reflect.Method;
import java.lang.reflect.Modifier;
import java.util.ArrayList;
import java.util.Comparator;
import java.util.List;
import java.util.Random;
import java.util.Set;

/** Any arguments in any state: nothing throws, refusals and questions change nothing, answers stay in their bounds. */
public final class WildCalls {
    private static final Set<String> CHANGES = Set.of("feed", "end", "garden", "put", "move", "clear", "mow", "adopt",
        "week", "keep", "back", "sheet", "lay", "read");
    private static final int[] ODD = {Integer.MIN_VALUE, Integer.MIN_VALUE + 1, -49, -37, -25, -4, -1, 10, 24, 25, 35, 36,
        37, 48, 49, 60, 61, 99, 100, 127, 128, 255, 256, 320, 321, 998, 999, 1000, 65535, 65536, Integer.MAX_VALUE - 1,
        Integer.MAX_VALUE};
    private static final String[] WORDS = {"row ", "socket ", "turn ", "climb ", "bag ", "empty ", "cord ", "dew ",
        "high ", "sun ", "gggggg", "glxbhg", "xxbbbb", "0", "1", "7", "35", "60", "999", "1000", ";", ";", ";", " ",
        "#", "\u00e9"};

    private static int someNumber(Random r) {
        switch (r.nextInt(5)) {
            case 0: return ODD[r.nextInt(ODD.length)];
            case 1: return r.nextInt();
            case 2: return r.nextInt(36);
            default: return r.nextInt(6) - 1;
        }
    }

    private static long someBytes(Random r) {
        StringBuilder text = new StringBuilder();
        while (text.length() < 8) {
            text.append(WORDS[r.nextInt(WORDS.length)]);
        }
        long v = 0;
        for (int i = 0; i < 8; i++) {
            v = v << 8 | text.charAt(i) & 255;
        }
        return r.nextInt(20) == 0 ? r.nextLong() : v;
    }

    private static Object[] someArguments(Method m, Random r) {
        Object[] args = new Object[m.getParameterCount()];
        for (int i = 0; i < args.length; i++) {
            if (m.getParameterTypes()[i] == long.class) {
                args[i] = someBytes(r);
            } else {
                args[i] = someNumber(r);
            }
        }
        return args;
    }

    /** All that can be asked without changing anything, but the tape's bytes and the sheets. */
    private static String state(LawnTrees x) {
        StringBuilder all = new StringBuilder();
        for (int c = 0; c < 36; c++) {
            for (int what = 0; what < 4; what++) {
                all.append(x.cell(c, what)).append(' ');
            }
        }
        for (int what = 0; what < 7; what++) {
            all.append(x.rule(what)).append(' ').append(x.count(what)).append(' ');
        }
        for (int i = 0; i < x.count(2); i++) {
            all.append(x.moved(i, 0)).append(x.moved(i, 1)).append(' ');
        }
        return all.append(x.torn()).toString();
    }

    private static void checkBounds(LawnTrees x) {
        check(x.count(2) >= 0 && x.count(2) <= 24, "MOVES");
        check(x.count(4) >= 0 && x.count(4) <= 320, "bytes");
        check(x.cell(x.rule(0), 0) != 2, "the socket is barred");
        for (int c = 0; c < 36; c++) {
            check(x.cell(c, 1) >= 0 && x.cell(c, 1) <= (x.cell(c, 0) < 2 ? 60 : 0), "a height");
            check(x.cell(c, 3) == -4 || x.cell(c, 0) < 2 && x.cell(c, 3) >= 0 && x.cell(c, 3) < 4, "a picture");
        }
    }

    private static void check(boolean holds, String what) {
        if (!holds) {
            throw new IllegalStateException(what);
        }
    }

    private static void oneCall(LawnTrees x, Method m, Object[] args) throws Exception {
        String before = state(x);
        long answer = ((Number) m.invoke(x, args)).longValue();
        String after = state(x);
        boolean mayChange = CHANGES.contains(m.getName()) && (answer >= 0 || m.getName().equals("garden"));
        check(mayChange || before.equals(after), "it changed something and answered " + answer);
        checkBounds(x);
    }

    public static void main(String[] args) throws Exception {
        List<Method> methods = new ArrayList<>();
        for (Method m : LawnTrees.class.getDeclaredMethods()) {
            if (Modifier.isPublic(m.getModifiers())) {
                methods.add(m);
            }
        }
        methods.sort(Comparator.comparing(Method::getName));
        Random r = new Random(512);
        for (int run = 0; run < 400; run++) {
            LawnTrees x = new LawnTrees();
            List<String> calls = new ArrayList<>();
            for (int i = 0; i < 512; i++) {
                Method m = methods.get(r.nextInt(methods.size()));
                Object[] given = someArguments(m, r);
                calls.add(m.getName() + List.of(given));
                try {
                    oneCall(x, m, given);
                } catch (Exception e) {
                    System.out.println("run " + run + ": " + e + " " + e.getCause() + " in the last of " + calls);
                    System.exit(1);
                }
            }
            // a garden that is small enough for LEAST
            for (int c = 0; c < 36 && run % 2 == 0; c++) {
                x.put(c, c % 6 == run % 5 ? r.nextInt(2) : 2 + r.nextInt(3));
            }
            check(x.least(0) >= -4 && x.dearest(0) >= -4 && x.adopt() >= -4, "the least way");
        }
        System.out.println("400 runs of 512 wild calls");
    }
}
