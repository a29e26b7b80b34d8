import java.io.PrintWriter;
import java.io.StringWriter;
import java.lang.reflect.Constructor;
import java.lang.reflect.Field;
import java.lang.reflect.Method;
import java.lang.reflect.Modifier;
import java.nio.charset.StandardCharsets;
import java.nio.file.Files;
import java.nio.file.Path;
import java.util.ArrayList;
import java.util.Arrays;
import java.util.HashMap;
import java.util.List;
import java.util.Map;
import java.util.Set;
import java.util.TreeSet;
import java.util.regex.Matcher;
import java.util.regex.Pattern;
import java.util.spi.ToolProvider;

/** The rules of LANGUAGE.md that a machine can see: the face by reflection, the rest in the source's text. */
public final class SourceRules {
    private static final String[] FACE = {
        "int feed(long)", "int end(int)", "int garden()", "int fault()", "int rule(int)", "int cell(int,int)",
        "int put(int,int)", "int move(int,int)", "int clear()", "int moved(int,int)", "int run(int,int)",
        "int mow(int)", "long cord(int,int)", "int trips(int)", "int begin()", "int need(int)", "int least(int)",
        "int tree(int)", "int dearest(int)", "int adopt()", "int steps(int,int)", "long beyond()", "int middle(int)",
        "long robot(int,int,int,int,int,int)", "int until(int,int,int,int,int,int)", "long never(int,int,int)",
        "int best(int,int,int,int,int)", "long odds(int,int,int,int,int)", "int week(int)", "long high(int,int)",
        "int weeks(int)", "int stripes(int)", "int keep(int)", "int back(int)", "int sheet(int,int,int)",
        "int lay(int,int,int)", "int read(int,int,int,int)", "int torn()", "int count(int)"};
    private static final String[] FORBIDDEN = {
        "throw", "throws", "try", "catch", "finally", "synchronized", "assert", "import static", "package",
        "protected", "volatile", "transient", "native", "System.out", "Random", "nanoTime", "currentTimeMillis",
        "float", "double", "->", "::", "while (true)", "for (;;)", "hashCode", "toString"};
    private static final Set<String> LIBRARY = Set.of("java.lang.Long.bitCount", "java.lang.Math.max",
        "java.lang.Math.min", "java.lang.Object.<init>", "java.lang.String.charAt", "java.lang.String.indexOf",
        "java.lang.String.length", "java.lang.System.arraycopy", "java.util.Arrays.fill");
    private static final Map<String, Set<String>> CALLS = new HashMap<>();
    private static int wrong = 0;

    private static void check(boolean holds, String what) {
        if (!holds) {
            wrong++;
            System.out.println("rule broken: " + what);
        }
    }

    public static void main(String[] args) throws Exception {
        checkFace();
        for (Class<?> inner : LawnTrees.class.getDeclaredClasses()) {
            checkInner(inner);
        }
        check(LawnTrees.class.getDeclaredClasses().length <= 12, "some twelve classes");
        String source = Files.readString(Path.of("src/main/java/LawnTrees.java"), StandardCharsets.US_ASCII);
        checkText(source);
        checkCalls();
        if (wrong != 0) {
            System.exit(1);
        }
    }

    private static String told(Method m) {
        List<String> types = new ArrayList<>();
        for (Class<?> type : m.getParameterTypes()) {
            types.add(type.getSimpleName());
        }
        return m.getReturnType().getSimpleName() + " " + m.getName() + "(" + String.join(",", types) + ")";
    }

    private static void checkFace() throws Exception {
        Class<?> face = LawnTrees.class;
        check(face.getModifiers() == (Modifier.PUBLIC | Modifier.FINAL), "1: public and final");
        check(face.getPackageName().isEmpty(), "no package");
        Constructor<?>[] made = face.getDeclaredConstructors();
        check(made.length == 1 && Modifier.isPublic(made[0].getModifiers()) && made[0].getParameterCount() == 0,
            "1: one public constructor");
        Set<String> due = new TreeSet<>(Arrays.asList(FACE));
        Set<String> found = new TreeSet<>();
        Set<String> hidden = new TreeSet<>();
        for (Method m : face.getDeclaredMethods()) {
            boolean isPublic = Modifier.isPublic(m.getModifiers());
            check(isPublic || Modifier.isPrivate(m.getModifiers()), "1: neither public nor private: " + m);
            check(!isPublic || !Modifier.isStatic(m.getModifiers()), "1: static: " + m);
            (isPublic ? found : hidden).add(isPublic ? told(m) : m.getName());
        }
        check(found.equals(due), "1: the public methods are " + found);
        for (String name : hidden) {
            check(!publicNames().contains(name), "1: a private method bears a public name: " + name);
        }
        Set<String> constants = new TreeSet<>();
        for (Field f : face.getDeclaredFields()) {
            if (Modifier.isPublic(f.getModifiers())) {
                check(Modifier.isStatic(f.getModifiers()) && f.getType() == int.class, "1: public field " + f);
                constants.add(f.getName() + "=" + f.getInt(null));
            } else {
                check(Modifier.isPrivate(f.getModifiers()), "1: neither public nor private: " + f);
            }
        }
        check(constants.toString().equals("[BAD=-1, FULL=-3, NONE=-4, STATE=-2]"), "1: constants " + constants);
        checkMembers(face);
    }

    private static Set<String> publicNames() {
        Set<String> names = new TreeSet<>();
        for (String line : FACE) {
            names.add(line.substring(line.indexOf(' ') + 1, line.indexOf('(')));
        }
        return names;
    }

    private static void checkInner(Class<?> inner) {
        int flags = inner.getModifiers();
        check(Modifier.isStatic(flags) && !Modifier.isPublic(flags) && !Modifier.isProtected(flags), "2: " + inner);
        check(inner.getDeclaredClasses().length == 0, "a class in a class in a class: " + inner);
        for (Method m : inner.getDeclaredMethods()) {
            check(!Modifier.isPublic(m.getModifiers()), "a public method inside: " + m);
            check(!publicNames().contains(m.getName()), "1: a method inside bears a public name: " + m);
        }
        checkMembers(inner);
    }

    private static void checkMembers(Class<?> any) {
        int fields = 0;
        for (Field f : any.getDeclaredFields()) {
            int flags = f.getModifiers();
            fields += Modifier.isStatic(flags) ? 0 : 1;
            check(!Modifier.isStatic(flags) || Modifier.isFinal(flags), "5: a static field that changes: " + f);
        }
        check(fields <= 20, "11: more than twenty fields: " + any + " " + fields);
        for (Method m : any.getDeclaredMethods()) {
            check(m.getParameterCount() <= 7, "11: more than seven parameters: " + m);
            check(!m.isSynthetic(), "2: a synthetic method: " + m);
        }
    }

    private static void checkText(String source) {
        String code = source.replaceAll("(?s)/\\*.*?\\*/", "").replaceAll("//[^\n]*", "");
        for (String word : FORBIDDEN) {
            Matcher m = Pattern.compile("(?<!\\w)" + Pattern.quote(word) + "(?!\\w)").matcher(code);
            check(!m.find(), "forbidden in the source: " + word);
        }
        Matcher imported = Pattern.compile("import ([^;]*);").matcher(code);
        while (imported.find()) {
            check(imported.group(1).equals("java.util.Arrays"), "4: import " + imported.group(1));
        }
        checkMade(code);
        checkLengths(source);
    }

    /** Nothing is made behind a constructor: each "new" stands in a field's line. */
    private static void checkMade(String code) {
        for (String line : code.split("\n")) {
            if (line.contains("new ")) {
                check(line.contains("private final ") || line.startsWith("        final "), "12: made in a call: " + line);
            }
        }
    }

    private static void checkLengths(String source) {
        int begun = -1;
        String[] lines = source.split("\n");
        for (int i = 0; i < lines.length; i++) {
            check(lines[i].length() <= 120, "a long line: " + (i + 1));
            boolean opens = lines[i].matches(" {4}( {4})?[\\w].*\\) \\{");
            if (opens) {
                begun = i;
            } else if (begun >= 0 && lines[i].matches(" {4}( {4})?\\}")) {
                check(i - begun <= 60, "11: a long method at line " + (begun + 1));
                begun = -1;
            }
        }
    }

    /** Who calls whom, read from the classes by javap, which every JDK has. */
    private static void readCalls() throws Exception {
        Path classes = Path.of(LawnTrees.class.getProtectionDomain().getCodeSource().getLocation().toURI());
        List<String> told = new ArrayList<>(List.of("-c", "-p"));
        told.add(classes.resolve("LawnTrees.class").toString());
        for (Class<?> inner : LawnTrees.class.getDeclaredClasses()) {
            told.add(classes.resolve(inner.getName() + ".class").toString());
        }
        StringWriter text = new StringWriter();
        PrintWriter out = new PrintWriter(text);
        ToolProvider.findFirst("javap").orElseThrow().run(out, out, told.toArray(new String[0]));
        String owner = "";
        String method = "";
        for (String line : text.toString().split("\\R")) {
            Matcher type = Pattern.compile("^\\S.*class (\\S+) .*\\{").matcher(line);
            Matcher head = Pattern.compile("^  (?:.* )?([\\w$]+)\\(.*\\);").matcher(line);
            Matcher call = Pattern.compile("invoke\\w+ .*// (?:Interface)?Method ([^:]+):").matcher(line);
            if (type.find()) {
                owner = type.group(1);
            } else if (head.find()) {
                method = owner + "." + (head.group(1).equals(owner) ? "<init>" : head.group(1));
                CALLS.computeIfAbsent(method, k -> new TreeSet<>());
            } else if (call.find()) {
                String name = call.group(1).replace("\"", "").replace('/', '.');
                CALLS.get(method).add(name.contains(".") ? name : owner + "." + name);
            }
        }
    }

    private static void checkCalls() throws Exception {
        readCalls();
        check(CALLS.size() > 100, "javap told too little: " + CALLS.size());
        Set<String> library = new TreeSet<>();
        for (String method : CALLS.keySet()) {
            int depth = depthOf(method, 1);
            check(depth <= 8, "11: calls go " + depth + " deep from " + method);
            library.addAll(CALLS.get(method));
        }
        library.removeAll(CALLS.keySet());
        library.removeAll(LIBRARY);
        check(library.isEmpty(), "4: the library is used: " + library);
    }

    /** How deep calls go from a method, itself and the library's counted; far too deep, if it calls itself. */
    private static int depthOf(String method, int above) {
        int deepest = 0;
        for (String called : CALLS.getOrDefault(method, Set.of())) {
            deepest = Math.max(deepest, above > 50 ? 50 : depthOf(called, above + 1));
        }
        return deepest + 1;
    }
}
