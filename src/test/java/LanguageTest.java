import java.io.IOException;
import java.io.PrintWriter;
import java.io.StringWriter;
import java.lang.reflect.Constructor;
import java.lang.reflect.Field;
import java.lang.reflect.Method;
import java.lang.reflect.Modifier;
import java.nio.file.Files;
import java.nio.file.Path;
import java.util.ArrayList;
import java.util.HashMap;
import java.util.HashSet;
import java.util.List;
import java.util.Map;
import java.util.Set;
import java.util.TreeSet;
import java.util.regex.Matcher;
import java.util.regex.Pattern;
import java.util.spi.ToolProvider;

/** The rules of LANGUAGE.md that a program can look at, and the face that the document lists. */
public final class LanguageTest {
    private static final String[] FACE = {
        "int write(int)", "int wipe()", "int fault()", "int stone()", "int word(int,int)", "int line(int)",
        "int rule(int,int)", "int wear(int)", "int carve(int,int)", "int bar(int)", "int setRule(int,int,int)",
        "int weigh(int,int)", "int undo()", "int lies(int,int)", "long readings()", "int rank(long,int)",
        "long stands(int,int)", "long begins(int,int)", "int sure(int)", "int judge(int,long)", "int see(int,int,int)",
        "int unsee()", "long which(int)", "long share(int,boolean)", "int lost(int,boolean)", "long seed(long)",
        "int drawn(int)", "int keep(int)", "int again(int)", "int count(int)"};

    /** What rule 4 lists of the library, as far as the class uses it; and the constructor that javac itself calls. */
    private static final Set<String> LIBRARY = Set.of("java/util/Arrays.fill", "java/lang/System.arraycopy",
        "java/lang/Math.min", "java/lang/Integer.bitCount", "java/lang/Object.<init>");
    private static final Set<Class<?>> CONSTANTS = Set.of(int.class, long.class, boolean.class, char.class, String.class,
        int[].class, long[].class, char[].class, byte[].class);
    private static final Set<Class<?>> ROWS = Set.of(int[].class, long[].class, boolean[].class);

    private static final Due due = new Due("LanguageTest");

    public static void main(String[] args) throws IOException {
        face();
        List<Class<?>> classes = new ArrayList<>(List.of(WornLetters.class.getDeclaredClasses()));
        due.holds("some twelve classes at most", classes.size() < 12);
        for (Class<?> c : classes) {
            due.holds(c + " is static and not public", Modifier.isStatic(c.getModifiers()) && !Modifier.isPublic(c.getModifiers())
                && !Modifier.isProtected(c.getModifiers()));
        }
        classes.add(WornLetters.class);
        Set<String> names = new HashSet<>();
        for (String m : FACE) {
            names.add(m.substring(m.indexOf(' ') + 1, m.indexOf('(')));
        }
        for (Class<?> c : classes) {
            members(c, names);
        }
        source(Files.readString(Path.of(System.getProperty("root", "."), "src/main/java/WornLetters.java")));
        depth(classes);
        due.finish();
    }

    private static void face() {
        Class<?> c = WornLetters.class;
        due.holds("the class is public and final", Modifier.isPublic(c.getModifiers()) && Modifier.isFinal(c.getModifiers()));
        Set<String> found = new TreeSet<>();
        for (Method m : c.getDeclaredMethods()) {
            if (!Modifier.isPrivate(m.getModifiers())) {
                String form = m.toString().replace("WornLetters.", "").replace("public ", "");
                found.add(form);
            }
        }
        due.holds("the methods are those of the face: " + found, found.equals(new TreeSet<>(List.of(FACE))));
        Constructor<?>[] made = c.getDeclaredConstructors();
        due.holds("there is one public constructor without arguments", made.length == 1
            && Modifier.isPublic(made[0].getModifiers()) && made[0].getParameterCount() == 0);
        Set<String> constants = new TreeSet<>();
        for (Field f : c.getDeclaredFields()) {
            if (!Modifier.isPrivate(f.getModifiers())) {
                constants.add(f.toString());
            }
        }
        Set<String> want = new TreeSet<>();
        for (String name : new String[] {"UNKNOWN", "OUTSIDE", "STATE", "FULL", "NONE"}) {
            want.add("public static final int WornLetters." + name);
        }
        due.holds("the constants are those of the face: " + constants, constants.equals(want));
    }

    private static void members(Class<?> c, Set<String> names) {
        int fields = 0;
        for (Field f : c.getDeclaredFields()) {
            boolean shared = Modifier.isStatic(f.getModifiers());
            due.holds(f + " is final if it is static", !shared || Modifier.isFinal(f.getModifiers()));
            Class<?> type = f.getType();
            boolean own = type.getNestHost() == WornLetters.class || type.isPrimitive() || ROWS.contains(type);
            due.holds(f + " is of a type that the rules leave", shared ? CONSTANTS.contains(type) : own);
            fields += shared ? 0 : 1;
        }
        due.holds(c + " has at most twenty fields", fields <= 20);
        for (Method m : c.getDeclaredMethods()) {
            due.holds(m + " takes at most seven parameters", m.getParameterCount() <= 7);
            boolean publicOne = c == WornLetters.class && Modifier.isPublic(m.getModifiers());
            due.holds(m + " does not bear the name of a public method", publicOne || !names.contains(m.getName()));
            due.holds(m + " is no lambda", !m.isSynthetic());
        }
    }

    private static void source(String text) {
        String code = text.replaceAll("(?s)/\\*.*?\\*/", "").replaceAll("//[^\n]*", "").replaceAll("'[^']+'", "0");
        due.holds("all signs are ASCII", text.chars().allMatch(ch -> ch < 128));
        String[] banned = {"\\bthrow\\b", "\\btry\\b", "\\bcatch\\b", "\\bsynchronized\\b", "\\bassert\\b", "->", "::",
            "\\bpackage\\b", "Exact\\b", "\"", "\\bvar\\b", "\\bObject\\b", "\\bSystem\\.(?!arraycopy)", "\\bthis\\b\\s*[,)]",
            "\\bstatic\\s*\\{", "\\bprotected\\b", "\\bvolatile\\b", "\\bdouble\\b", "\\bfloat\\b", "\\bfor \\(;;", "while \\(true"};
        for (String b : banned) {
            due.holds("the code is without " + b, !Pattern.compile(b).matcher(code).find());
        }
        Matcher imports = Pattern.compile("import ([\\w.*]+);").matcher(code);
        while (imports.find()) {
            due.holds("import of " + imports.group(1), imports.group(1).equals("java.util.Arrays"));
        }
        methodLengths(code);
    }

    private static void methodLengths(String code) {
        String[] lines = code.split("\n", -1);
        int methods = 0;
        for (int start = 0; start < lines.length; start++) {
            Matcher header = Pattern.compile("( +)(public|private) .*\\) \\{").matcher(lines[start]);
            if (!header.matches()) {
                continue;
            }
            methods++;
            int end = start;
            while (end < lines.length && !lines[end].equals(header.group(1) + "}")) {
                end++;
            }
            due.holds("at most sixty lines:" + lines[start], end < lines.length && end - start < 60);
        }
        due.holds("the methods were found", methods > FACE.length);
    }

    // ---- what is called, and how deep calls go, told from the compiled classes

    private static void depth(List<Class<?>> classes) {
        Map<String, Set<String>> calls = new HashMap<>();
        ToolProvider javap = ToolProvider.findFirst("javap").orElse(null);
        due.holds("javap is there", javap != null);
        for (Class<?> c : classes) {
            StringWriter out = new StringWriter();
            PrintWriter printer = new PrintWriter(out);
            javap.run(printer, printer, "-p", "-c", "-cp", System.getProperty("java.class.path"), c.getName());
            readCalls(c.getName(), out.toString(), calls);
        }
        due.holds("the calls of judge were found", calls.getOrDefault("WornLetters.judge", Set.of()).size() > 1);
        for (String method : calls.keySet()) {
            due.holds(method + " calls at most eight deep", depthOf(method, calls, 0) <= 8);
            for (String called : calls.get(method)) {
                boolean listed = calls.containsKey(called) || LIBRARY.contains(called);
                due.holds(method + " calls what the rules leave, not " + called + ":", listed);
            }
        }
    }

    private static void readCalls(String name, String listing, Map<String, Set<String>> calls) {
        Pattern header = Pattern.compile("  (?:[\\w\\[\\]$.]+ )*([\\w$.]+)\\(.*\\);");
        Pattern call = Pattern.compile("// Method ([^:]+):");
        String method = null;
        for (String row : listing.split("\n")) {
            Matcher h = header.matcher(row);
            Matcher c = call.matcher(row);
            if (h.matches()) {
                String own = h.group(1).equals(name) ? "<init>" : h.group(1);
                method = name + "." + own;
                calls.put(method, new HashSet<>());
            } else if (c.find() && method != null) {
                String target = c.group(1).replace("\"", "");
                calls.get(method).add(target.contains(".") ? target : name + "." + target);
            }
        }
    }

    private static int depthOf(String method, Map<String, Set<String>> calls, int above) {
        if (!calls.containsKey(method) || above > 20) {
            return above > 20 ? above : 0;
        }
        int deepest = 0;
        for (String called : calls.get(method)) {
            deepest = Math.max(deepest, depthOf(called, calls, above + 1));
        }
        return deepest + 1;
    }
}
