import java.io.IOException;
import java.io.PrintWriter;
import java.lang.reflect.Method;
import java.lang.reflect.Modifier;
import java.net.URL;
import java.net.URLClassLoader;
import java.nio.file.DirectoryStream;
import java.nio.file.Files;
import java.nio.file.Path;
import java.util.List;
import java.util.regex.Matcher;
import java.util.regex.Pattern;
import java.util.spi.ToolProvider;

/** The Java of README.md: it must compile, and each call must answer what README.md says behind it. */
public final class ReadmeTest {
    private static final Path ROOT = Path.of(System.getProperty("root", "."));
    private static final Pattern BLOCK = Pattern.compile("(?s)```java\n(.*?)```");
    private static final Pattern CALL = Pattern.compile("(x\\.(\\w+)\\(.*\\)); *// (-?\\d+)\\b.*");

    private static final Due due = new Due("ReadmeTest");

    public static void main(String[] args) throws IOException, ReflectiveOperationException {
        String page = Files.readString(ROOT.resolve("README.md"));
        StringBuilder body = new StringBuilder();
        Matcher blocks = BLOCK.matcher(page);
        while (blocks.find()) {
            body.append(blocks.group(1));
        }
        for (Object[] row : answers(program(body.toString()))) {
            due.is("README.md: " + row[0], (Long) row[1], (Long) row[2]);
        }
        showsEachMethod(body.toString());
        namesEachTest(page);
        due.finish();
    }

    /** The lines of the page, in a class that notes each answer beside the one that the page gives. */
    private static String program(String body) {
        StringBuilder code = new StringBuilder("public final class ReadmeCalls {\n"
            + "private static final java.util.List<Object[]> ROWS = new java.util.ArrayList<>();\n"
            + "private static void row(String call, long got, long want) { ROWS.add(new Object[] {call, got, want}); }\n"
            + "public static java.util.List<Object[]> rows() {\n");
        for (String line : body.split("\n")) {
            Matcher call = CALL.matcher(line);
            due.holds("README.md: an answer behind \"" + line + "\"", call.matches() || !line.contains("//"));
            if (call.matches()) {
                code.append("row(\"" + call.group(1) + "\", " + call.group(1) + ", " + call.group(3) + "L);\n");
            } else {
                code.append(line).append('\n');
            }
        }
        return code.append("return ROWS;\n}\n}\n").toString();
    }

    @SuppressWarnings("unchecked")
    private static List<Object[]> answers(String program) throws IOException, ReflectiveOperationException {
        Path folder = Files.createDirectories(ROOT.resolve("build/readme"));
        Path source = folder.resolve("ReadmeCalls.java");
        Files.writeString(source, program);
        ToolProvider javac = ToolProvider.findFirst("javac").orElse(null);
        due.holds("javac is there", javac != null);
        PrintWriter out = new PrintWriter(System.out, true);
        int code = javac.run(out, out, "-cp", System.getProperty("java.class.path"), "-d", folder.toString(), source.toString());
        due.holds("the Java of README.md compiles", code == 0);
        if (code != 0) {
            due.finish();
        }
        try (URLClassLoader loader = new URLClassLoader(new URL[] {folder.toUri().toURL()})) {
            return (List<Object[]>) loader.loadClass("ReadmeCalls").getMethod("rows").invoke(null);
        }
    }

    private static void showsEachMethod(String body) {
        due.holds("README.md shows how an object is made", body.contains("new WornLetters()"));
        for (Method m : WornLetters.class.getDeclaredMethods()) {
            boolean shown = Pattern.compile("x\\." + m.getName() + "\\([^\n]*\\); *// -?\\d").matcher(body).find();
            due.holds("README.md shows an answer of " + m.getName(), shown || Modifier.isPrivate(m.getModifiers()));
        }
    }

    private static void namesEachTest(String page) throws IOException {
        try (DirectoryStream<Path> tests = Files.newDirectoryStream(ROOT.resolve("src/test/java"), "*Test.java")) {
            for (Path test : tests) {
                String name = test.getFileName().toString().replace(".java", "");
                due.holds("README.md names " + name, page.contains("`" + name + "`"));
            }
        }
    }
}
