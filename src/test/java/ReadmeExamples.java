import java.io.IOException;
import java.io.PrintWriter;
import java.io.StringWriter;
import java.lang.reflect.Method;
import java.lang.reflect.Modifier;
import java.net.URI;
import java.net.URL;
import java.net.URLClassLoader;
import java.nio.charset.StandardCharsets;
import java.nio.file.Files;
import java.nio.file.Path;
import java.util.ArrayList;
import java.util.List;
import java.util.Set;
import java.util.TreeSet;
import java.util.regex.Matcher;
import java.util.regex.Pattern;
import java.util.spi.ToolProvider;

/** What README.md shows as calls and answers is so: its Java is compiled as it stands there, and run. */
public final class ReadmeExamples {
    private static final Pattern BLOCK = Pattern.compile("(?s)```java\n(.*?)```");
    /** A call in a line of its own (not one within a loop), and what is told behind it. */
    private static final Pattern EXAMPLE = Pattern.compile("^([a-zA-Z]\\S*\\(.*\\));\\s*(?://\\s*(\\S.*))?$");
    private static final Pattern ANSWER = Pattern.compile("^(-?\\d+|BAD|STATE|FULL|NONE)(?::.*)?$");
    private static final Pattern CONSTANT = Pattern.compile("(?m)^\\| `([A-Z]+)` \\| (-\\d+) \\|");
    private static final Pattern LINE =
        Pattern.compile("(?m)^\\| `((\\w+) .*;)` \\| (.*) \\| (.*) \\| .* \\| `(\\w+)\\((?:c, )?(\\d+)\\)` \\|$");
    private static final Pattern BOUNDS = Pattern.compile("(?:a cell, )?(\\d+) to (\\d+)");
    private static final Set<String> SHOWN = new TreeSet<>();
    private static int asked = 0;
    private static int wrong = 0;

    public static void main(String[] args) throws Exception {
        String page = Files.readString(Path.of("README.md"), StandardCharsets.US_ASCII);
        runProgram(programOf(page));
        for (Method m : LawnTrees.class.getDeclaredMethods()) {
            if (Modifier.isPublic(m.getModifiers()) && !SHOWN.contains(m.getName())) {
                wrong("no example of " + m.getName());
            }
        }
        checkConstants(page);
        checkLines(page);
        System.out.println(asked + " answers of README.md asked, " + wrong + " not as told");
        if (wrong != 0) {
            System.exit(1);
        }
    }

    /** Asked by the page's own program, which is loaded apart. */
    public static void due(String call, long got, long want) {
        asked++;
        if (got != want) {
            wrong(call + " answered " + got + ", the page tells " + want);
        }
    }

    private static void wrong(String what) {
        wrong++;
        System.out.println("README.md: " + what);
    }

    private static String programOf(String page) {
        StringBuilder methods = new StringBuilder();
        StringBuilder calls = new StringBuilder();
        Matcher block = BLOCK.matcher(page);
        int blocks = 0;
        while (block.find()) {
            if (block.group(1).contains("static ")) {
                methods.append(block.group(1));
            } else {
                methods.append("static void example").append(blocks).append("() {\n");
                appendExample(methods, block.group(1));
                methods.append("}\n");
                calls.append("example").append(blocks).append("();\n");
                blocks++;
            }
        }
        return "public class Page {\n" + methods + "public static void main(String[] args) {\n" + calls + "}\n}\n";
    }

    private static void appendExample(StringBuilder program, String block) {
        for (String line : block.split("\n")) {
            Matcher example = EXAMPLE.matcher(line);
            if (!example.matches()) {
                program.append(line).append('\n');
                continue;
            }
            String told = example.group(2) == null ? "" : example.group(2);
            Matcher answer = ANSWER.matcher(told);
            if (!answer.matches()) {
                wrong("a call without its answer: " + line);
                continue;
            }
            String want = answer.group(1);
            String call = example.group(1);
            String number = Character.isLetter(want.charAt(0)) ? "LawnTrees." + want : want + "L";
            program.append("ReadmeExamples.due(\"").append(call.replace("\"", "\\\"")).append("\", ").append(call)
                .append(", ").append(number).append(");\n");
            noteShown(call);
        }
    }

    private static void noteShown(String call) {
        Matcher asks = Pattern.compile("\\bx\\.(\\w+)\\(").matcher(call);
        while (asks.find()) {
            SHOWN.add(asks.group(1));
        }
    }

    private static void runProgram(String program) throws Exception {
        Path folder = Files.createTempDirectory("readme");
        Path source = folder.resolve("Page.java");
        Files.writeString(source, program, StandardCharsets.US_ASCII);
        URI here = ReadmeExamples.class.getProtectionDomain().getCodeSource().getLocation().toURI();
        StringWriter text = new StringWriter();
        PrintWriter out = new PrintWriter(text);
        ToolProvider javac = ToolProvider.findFirst("javac").orElseThrow();
        int compiled =
            javac.run(out, out, "-cp", Path.of(here).toString(), "-d", folder.toString(), source.toString());
        if (compiled == 0) {
            try (URLClassLoader loader = new URLClassLoader(new URL[] {folder.toUri().toURL()})) {
                loader.loadClass("Page").getMethod("main", String[].class).invoke(null, (Object) new String[0]);
            }
        } else {
            wrong("its Java does not compile: " + text);
        }
        delete(folder);
    }

    private static void delete(Path folder) throws IOException {
        List<Path> files = new ArrayList<>();
        try (var all = Files.list(folder)) {
            all.forEach(files::add);
        }
        for (Path file : files) {
            Files.delete(file);
        }
        Files.delete(folder);
    }

    private static void checkConstants(String page) throws Exception {
        Matcher row = CONSTANT.matcher(page);
        Set<String> told = new TreeSet<>();
        while (row.find()) {
            told.add(row.group(1));
            due(row.group(1), LawnTrees.class.getField(row.group(1)).getInt(null), Long.parseLong(row.group(2)));
        }
        due("constants in its table", told.size(), LawnTrees.class.getFields().length);
    }

    /** The table of the text's lines: each is taken, its bounds are so, and what holds at first. */
    private static void checkLines(String page) {
        Matcher row = LINE.matcher(page);
        Set<String> told = new TreeSet<>();
        while (row.find()) {
            String name = row.group(2);
            told.add(name);
            due("garden() of " + row.group(1), tell(new LawnTrees(), row.group(1)), 1);
            if (!name.equals("row")) {
                String first = name.equals("sun") ? "sun 35 " : name + " ";
                checkBounds(row, first, name.equals("sun") ? 35 : 0);
            }
        }
        due("lines in its table", told.size(), 10);
    }

    private static void checkBounds(Matcher row, String first, int cell) {
        Matcher bounds = BOUNDS.matcher(row.group(3));
        if (!bounds.matches()) {
            wrong("no bounds of " + row.group(1));
            return;
        }
        int least = Integer.parseInt(bounds.group(1));
        int most = Integer.parseInt(bounds.group(2));
        LawnTrees x = new LawnTrees();
        due(row.group(5) + " at first", asked(x, row, cell), Long.parseLong(row.group(4)));
        for (int number : new int[] {least, most}) {
            due("garden() of " + first + number, tell(x, first + number + ";"), 1);
            due(row.group(5) + " behind " + first + number, asked(x, row, cell), number);
        }
        int refused = -10 - first.length();
        due("garden() of " + first + (most + 1), tell(x, first + (most + 1) + ";"), refused);
        if (least > 0) {
            due("garden() of " + first + (least - 1), tell(x, first + (least - 1) + ";"), refused);
        }
    }

    /** What the row's last column asks: a question of the text, or of a cell. */
    private static long asked(LawnTrees x, Matcher row, int cell) {
        int what = Integer.parseInt(row.group(6));
        return row.group(5).equals("cell") ? x.cell(cell, what) : x.rule(what);
    }

    private static int tell(LawnTrees x, String text) {
        x.end(0);
        for (int i = 0; i < text.length(); i += 8) {
            long eight = 0;
            for (int k = i; k < i + 8; k++) {
                eight = eight << 8 | (k < text.length() ? text.charAt(k) : ' ');
            }
            x.feed(eight);
        }
        x.end(text.length());
        return x.garden();
    }
}
