import java.io.IOException;
import java.lang.reflect.InvocationTargetException;
import java.lang.reflect.Method;
import java.lang.reflect.Modifier;
import java.nio.charset.StandardCharsets;
import java.nio.file.Files;
import java.nio.file.Path;
import java.util.ArrayList;
import java.util.Comparator;
import java.util.List;

/** Runs the tests of a class, each of which is of one sentence of the document, and tells what is not as due. */
final class Edges {
    static final int BAD = -1, STATE = -2, FULL = -3, NONE = -4;
    private static final Path DOCUMENT = Path.of("../shared/DOC.md");
    private static final String TOLD = readDocument();
    private static String test = "";
    private static String sentence = "";
    private static int named = 0;
    private static int sentences = 0;
    private static int asked = 0;
    private static int wrong = 0;

    private Edges() {
    }

    /** Runs every static method of the class that takes nothing and answers nothing. */
    static void run(Class<?> tests) {
        List<Method> all = new ArrayList<>();
        for (Method m : tests.getDeclaredMethods()) {
            boolean isTest = Modifier.isStatic(m.getModifiers()) && m.getParameterCount() == 0;
            if (isTest && m.getReturnType() == void.class && !m.isSynthetic()) {
                all.add(m);
            }
        }
        all.sort(Comparator.comparing(Method::getName));
        for (Method m : all) {
            runOne(m);
        }
        System.out.println(sentences + " sentences, " + asked + " answers asked, " + wrong + " not as due");
        if (wrong != 0 || sentences == 0) {
            System.exit(1);
        }
    }

    private static void runOne(Method m) {
        test = m.getName();
        sentence = "";
        named = 0;
        try {
            m.setAccessible(true);
            m.invoke(null);
        } catch (InvocationTargetException | IllegalAccessException e) {
            Throwable cause = e.getCause() == null ? e : e.getCause();
            wrong("ended by " + cause + " at " + cause.getStackTrace()[0]);
        }
        if (named != 1) {
            wrong("a test is of one sentence, this one names " + named);
        }
    }

    /** What the test is of: a sentence of a promise, in the document's own words. */
    static void promise(int number, String words) {
        name("Promise " + number, words, "## Promise " + number + ":", "\n## ");
    }

    /** What the test is of: a sentence of "Terms", in the document's own words. */
    static void term(String words) {
        name("Terms", words, "## Terms", "\n## ");
    }

    /** What the test is of: a sentence of "What it is", in the document's own words. */
    static void what(String words) {
        name("What it is", words, "## What it is", "\n## ");
    }

    private static void name(String where, String words, String head, String end) {
        named++;
        sentences++;
        sentence = where + ": \"" + words + "\"";
        int from = TOLD.indexOf(head);
        int to = from < 0 ? -1 : TOLD.indexOf(end, from + head.length());
        String part = from < 0 ? "" : TOLD.substring(from, to < 0 ? TOLD.length() : to);
        if (!TOLD.isEmpty() && !inOneLine(part).contains(inOneLine(words))) {
            wrong("the document does not say so there");
        }
    }

    private static String inOneLine(String text) {
        return text.replaceAll("\\s+", " ");
    }

    private static String readDocument() {
        try {
            return Files.exists(DOCUMENT) ? Files.readString(DOCUMENT, StandardCharsets.UTF_8) : "";
        } catch (IOException e) {
            return "";
        }
    }

    static void due(String call, long got, long want) {
        asked++;
        if (got != want) {
            wrong(call + " answered " + got + ", due is " + want);
        }
    }

    static void same(String call, String got, String want) {
        asked++;
        if (!got.equals(want)) {
            wrong(call + " changed something: " + firstDifference(got, want));
        }
    }

    private static String firstDifference(String got, String want) {
        String[] is = got.split(";");
        String[] was = want.split(";");
        for (int i = 0; i < is.length && i < was.length; i++) {
            if (!is[i].equals(was[i])) {
                return "\"" + is[i] + "\" in place of \"" + was[i] + "\"";
            }
        }
        return "more or less is told";
    }

    static void wrong(String what) {
        wrong++;
        System.out.println(test + ", " + sentence + ": " + what);
    }
}
