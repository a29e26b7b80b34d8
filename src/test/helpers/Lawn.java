import java.lang.reflect.InvocationTargetException;
import java.lang.reflect.Method;
import java.util.ArrayList;
import java.util.HashMap;
import java.util.List;
import java.util.Map;

/** One object under test: its calls are told as the document writes them, counted and kept, so that it has twins. */
final class Lawn {
    private static final int MIN = Integer.MIN_VALUE, MAX = Integer.MAX_VALUE;
    private static final Map<String, Method> FACE = new HashMap<>();
    private static final Map<String, Call> KNOWN = new HashMap<>();

    private record Call(Method method, Object[] arguments) {
    }

    final LawnTrees object = new LawnTrees();
    private final List<Call> calls = new ArrayList<>();
    private final Map<Integer, String> probed = new HashMap<>();

    /** A garden that a text tells, with so many lines as it has signs. */
    static Lawn told(String text) {
        Lawn x = new Lawn();
        x.tell(text);
        x.due("garden()", text.chars().filter(sign -> sign == ';').count());
        return x;
    }

    /** The rows that are given, and behind them bare ones. */
    static String rows(String... given) {
        StringBuilder text = new StringBuilder();
        for (int row = 0; row < 6; row++) {
            text.append("row ").append(row < given.length ? given[row] : "bbbbbb").append(';');
        }
        return text.toString();
    }

    static long bits(int... cells) {
        long bits = 0;
        for (int c : cells) {
            bits |= 1L << c;
        }
        return bits;
    }

    /** One that has something of everything, so that any change can be seen. */
    static Lawn busy() {
        Lawn x = told("row glxbhg;row llbbgg;socket 7;turn 2;climb 3;bag 9;empty 4;cord 3;dew 4;high 5;sun 8 7;sun "
            + "12 0;");
        x.due("move(3, 1)", 1).due("move(0, 1)", 2).due("move(1, 1)", 3);
        x.due("mow(50)", 1).due("keep(0)", 0);
        x.due("week(1)", 8).due("move(2, 5)", 4).due("keep(1)", 0);
        x.due("put(30, 2)", 0).due("put(31, 4)", 0).due("move(1, 2)", 5);
        x.due("sheet(0, 0, 6)", 1).due("lay(0, 0, 1)", 1).due("lay(0, 1, 2)", 1).due("lay(0, 2, 3)", 1);
        x.due("lay(0, 3, 5)", 1).due("sheet(1, 1, 1)", 1).due("lay(1, 0, 2)", 1);
        x.due("sheet(2, 2, 48)", 1).due("lay(2, 46, 1)", 1).due("lay(2, 47, 4)", 1);
        x.due("read(0, 0, 0, 2)", 2).due("read(1, 1, 0, 1)", 0).due("torn()", 2);
        x.tell("turn 9;");
        x.due("garden()", -15).due("fault()", 3);
        x.tell("row hlllll;turn 3;bag 77;sun 9 9;");
        return x;
    }

    /** One with room for nothing more: 320 bytes, 24 MOVES, two IMAGES, four SHEETS. */
    static Lawn full() {
        Lawn x = busy();
        x.tell("row hlllll;turn 3;bag 77;sun 9 9;" + " ".repeat(320 - 33));
        for (int i = 7; i < 24; i++) {
            x.due("move(" + i % 4 + ", " + (1 + i % 5) + ")", i + 1);
        }
        return x.due("sheet(3, 0, 48)", 1).due("count(4)", 320);
    }

    int calls() {
        return calls.size();
    }

    /** THE TAPE becomes the text's bytes. */
    Lawn tell(String text) {
        ask("end(0)");
        for (int i = 0; i < text.length(); i += 8) {
            long v = 0;
            for (int k = i; k < i + 8; k++) {
                v = v << 8 | (k < text.length() ? text.charAt(k) & 255 : '#');
            }
            ask("feed(" + v + ")");
        }
        ask("end(" + text.length() + ")");
        return this;
    }

    long ask(String told) {
        Call call = KNOWN.computeIfAbsent(told, Lawn::parse);
        calls.add(call);
        probed.clear();
        if (calls.size() > 512) {
            Edges.wrong("more than 512 calls of one object");
        }
        return answer(call);
    }

    private long answer(Call call) {
        try {
            return ((Number) call.method.invoke(object, call.arguments)).longValue();
        } catch (InvocationTargetException | IllegalAccessException e) {
            Edges.wrong(call.method.getName() + " threw " + e.getCause());
            return 0;
        }
    }

    /** A call as the document writes it; MIN and MAX are the least and the greatest int. */
    private static Call parse(String told) {
        int open = told.indexOf('(');
        Method method = face().get(told.substring(0, open));
        String inside = told.substring(open + 1, told.length() - 1);
        String[] words = inside.isEmpty() ? new String[0] : inside.split(", ");
        Object[] arguments = new Object[words.length];
        for (int i = 0; i < words.length; i++) {
            if (method.getParameterTypes()[i] == long.class) {
                arguments[i] = Long.parseLong(words[i]);
            } else {
                arguments[i] = words[i].equals("MIN") ? MIN : words[i].equals("MAX") ? MAX : Integer.parseInt(words[i]);
            }
        }
        return new Call(method, arguments);
    }

    private static Map<String, Method> face() {
        if (FACE.isEmpty()) {
            for (Method m : LawnTrees.class.getMethods()) {
                if (m.getDeclaringClass() == LawnTrees.class) {
                    FACE.put(m.getName(), m);
                }
            }
        }
        return FACE;
    }

    Lawn due(String call, long want) {
        Edges.due(call, ask(call), want);
        return this;
    }

    /** MOVES told as pairs of figures: a way, its steps. */
    Lawn moves(String pairs) {
        for (int i = 0; i < pairs.length(); i += 2) {
            due("move(" + pairs.charAt(i) + ", " + pairs.charAt(i + 1) + ")", i / 2 + 1);
        }
        return this;
    }

    /** What run answers to each what, from a minute on. */
    Lawn runs(int minute, int... dues) {
        for (int what = 0; what < dues.length; what++) {
            due("run(" + minute + ", " + what + ")", dues[what]);
        }
        return this;
    }

    /** One that has had the same calls. */
    Lawn twin() {
        Lawn twin = new Lawn();
        for (Call call : calls) {
            twin.calls.add(call);
            twin.answer(call);
        }
        return twin;
    }

    /** Each call is refused by a twin, that is as before then; this one is not asked. */
    Lawn refused(long want, String... refused) {
        for (String call : refused) {
            for (int part = 0; part < Probe.PARTS; part++) {
                Lawn asked = twin();
                asked.due(call, want);
                Edges.same(call, asked.probe(part), probed.computeIfAbsent(part, p -> twin().probe(p)));
            }
        }
        return this;
    }

    /** Each call is a question: it is taken, and all is as before then. */
    Lawn questions(String... questions) {
        for (String call : questions) {
            for (int part = 0; part < Probe.PARTS; part++) {
                Lawn asked = twin();
                if (asked.ask(call) == Edges.BAD) {
                    Edges.wrong(call + " is not taken");
                }
                Edges.same(call, asked.probe(part), probed.computeIfAbsent(part, p -> twin().probe(p)));
            }
        }
        return this;
    }

    /** A call, with a number for its %, is refused below the least and above the most that is taken. */
    Lawn refusedBeyond(long want, String call, int least, int most) {
        for (String number : List.of("MIN", "" + (least - 1), "" + (most + 1), "MAX")) {
            refused(want, call.replace("%", number));
        }
        return this;
    }

    /** A question, with each number from the least to the most for its %, is taken: it has an answer above BAD. */
    Lawn takenWithin(String call, int least, int most) {
        for (int number : new int[] {least, most}) {
            Lawn asked = twin();
            String told = call.replace("%", "" + number);
            long answer = asked.ask(told);
            if (answer == Edges.BAD) {
                Edges.wrong(told + " is not taken");
            }
        }
        return this;
    }

    /** A text is refused: THE TAPE is empty then, the FAULT is told, all else is as before. */
    Lawn refusedText(String text, int place, int fault) {
        for (int part = 0; part < Probe.FAULT; part++) {
            Lawn asked = twin().tell(text);
            asked.ask("garden()");
            Edges.same("garden() of \"" + text + "\"", asked.probe(part), emptied(part));
        }
        Lawn asked = twin().tell(text);
        Edges.due("garden() of \"" + text + "\"", asked.ask("garden()"), -10 - place);
        Edges.due("fault() of \"" + text + "\"", asked.ask("fault()"), fault);
        Edges.due("count(4) behind \"" + text + "\"", asked.ask("count(4)"), 0);
        return this;
    }

    private String emptied(int part) {
        return probed.computeIfAbsent(100 + part, p -> {
            Lawn left = twin();
            left.ask("end(0)");
            return left.probe(part);
        });
    }

    private String probe(int part) {
        Probe probe = new Probe(object);
        String told = probe.tell(part);
        if (calls.size() + probe.asked() > 512) {
            Edges.wrong("more than 512 calls of one object");
        }
        return told;
    }
}
