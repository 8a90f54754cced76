import java.io.IOException;
import java.io.StringWriter;
import java.lang.reflect.Method;
import java.net.URL;
import java.net.URLClassLoader;
import java.nio.file.DirectoryStream;
import java.nio.file.Files;
import java.nio.file.Path;
import java.util.Comparator;
import java.util.HashSet;
import java.util.List;
import java.util.Set;
import java.util.regex.Matcher;
import java.util.regex.Pattern;
import java.util.stream.Stream;
import javax.tools.JavaCompiler;
import javax.tools.JavaFileObject;
import javax.tools.StandardJavaFileManager;
import javax.tools.ToolProvider;

/** README.md: each answer that it shows is the class's, each call is shown, and its way to run the tests runs them all. */
public final class ReadmeTest {
    private static final Path PAGE = Path.of("README.md");
    private static final Pattern BLOCK = Pattern.compile("(?ms)^```java\n(.*?)^```$");
    private static final Pattern SHOWN = Pattern.compile("(x\\.(\\w+)\\(.*\\));\\s*// (-?\\d+|true|false|throws (\\w+)): \\S.*");
    private static final Set<String> SETS_UP = Set.of("sign", "end", "count", "row");

    private static int wrong = 0;

    public static void main(String[] args) throws IOException, ReflectiveOperationException {
        String page = Files.readString(PAGE);
        Set<String> shown = new HashSet<>();
        String program = program(page, shown);
        answers(program);
        everyCallIsShown(page, shown);
        everyTestIsNamed(page);
        theWayRuns(page);
        System.out.println(wrong == 0 ? "the page shows what the class answers" : wrong + " things on the page are not so");
        if (wrong != 0) {
            System.exit(1);
        }
    }

    private static void must(boolean fine, String what) {
        if (!fine) {
            wrong++;
            System.out.println(what);
        }
    }

    // ---- what it shows

    /** A program that does what the page shows, and asks for each answer whether it is the one on the page. */
    private static String program(String page, Set<String> shown) {
        StringBuilder methods = new StringBuilder();
        StringBuilder steps = new StringBuilder();
        Matcher blocks = BLOCK.matcher(page);
        while (blocks.find()) {
            if (blocks.group(1).startsWith("static ")) {
                methods.append(blocks.group(1));
                continue;
            }
            for (String line : blocks.group(1).split("\n")) {
                steps.append(step(line, shown)).append('\n');
            }
        }
        must(shown.size() > 0, "the page shows no call");
        return "public final class Shown {\n"
            + "public static final java.util.List<String> WRONG = new java.util.ArrayList<>();\n"
            + "static void due(String call, Object got, String want) {\n"
            + "if (!String.valueOf(got).equals(want)) WRONG.add(call + \" answers \" + got + \", shown is \" + want);\n}\n"
            + methods + "public static void run() {\n" + steps + "}\n}\n";
    }

    private static String step(String line, Set<String> shown) {
        Matcher m = SHOWN.matcher(line);
        if (!m.matches()) {
            must(!line.contains("//") && !line.startsWith("x."), "no answer is told, or in another form: " + line);
            return line;
        }
        shown.add(m.group(2));
        String call = m.group(1);
        String quoted = '"' + call.replace("\"", "'") + '"';
        if (m.group(4) == null) {
            return "due(" + quoted + ", " + call + ", \"" + m.group(3) + "\");";
        }
        return "try { due(" + quoted + ", " + call + ", \"" + m.group(3) + "\"); }"
            + " catch (RuntimeException e) { due(" + quoted + ", e.getClass().getSimpleName(), \"" + m.group(4) + "\"); }";
    }

    private static void answers(String program) throws IOException, ReflectiveOperationException {
        Path place = Files.createTempDirectory("readme");
        try {
            Path source = Files.writeString(place.resolve("Shown.java"), program);
            if (!compiles(source, place)) {
                return;
            }
            try (URLClassLoader classes = new URLClassLoader(new URL[] {place.toUri().toURL()}, ReadmeTest.class.getClassLoader())) {
                Class<?> shown = classes.loadClass("Shown");
                Method run = shown.getMethod("run");
                run.invoke(null);
                for (Object fault : (List<?>) shown.getField("WRONG").get(null)) {
                    must(false, String.valueOf(fault));
                }
            }
        } finally {
            delete(place);
        }
    }

    private static boolean compiles(Path source, Path place) throws IOException {
        JavaCompiler javac = ToolProvider.getSystemJavaCompiler();
        must(javac != null, "no compiler is there");
        if (javac == null) {
            return false;
        }
        StringWriter said = new StringWriter();
        try (StandardJavaFileManager files = javac.getStandardFileManager(null, null, null)) {
            Iterable<? extends JavaFileObject> units = files.getJavaFileObjects(source);
            List<String> options = List.of("-cp", System.getProperty("java.class.path"), "-d", place.toString());
            boolean fine = javac.getTask(said, files, null, options, null, units).call();
            must(fine, "what the page shows does not compile:\n" + said);
            return fine;
        }
    }

    private static void delete(Path place) throws IOException {
        try (Stream<Path> all = Files.walk(place)) {
            for (Path p : all.sorted(Comparator.reverseOrder()).toList()) {
                Files.delete(p);
            }
        }
    }

    // ---- what it names

    private static void everyCallIsShown(String page, Set<String> shown) {
        for (Method m : TollOnVowels.class.getMethods()) {
            if (m.getDeclaringClass() == TollOnVowels.class) {
                must(shown.contains(m.getName()) || page.contains("`" + m.getName() + "`"),
                    m.getName() + "() is neither shown nor named");
            }
        }
        for (String name : SETS_UP) {
            must(shown.contains(name), name + "() is not shown");
        }
    }

    private static void everyTestIsNamed(String page) throws IOException {
        try (DirectoryStream<Path> tests = Files.newDirectoryStream(Path.of("src/test/java"), "*.java")) {
            for (Path test : tests) {
                must(page.contains(test.getFileName().toString()), test + " is not named");
            }
        }
        Matcher named = Pattern.compile("\\b\\w+\\.java\\b").matcher(page);
        while (named.find()) {
            must(Files.exists(Path.of("src/test/java", named.group())) || Files.exists(Path.of("src/main/java", named.group())),
                named.group() + " is named, but not there");
        }
    }

    private static void theWayRuns(String page) throws IOException {
        Path script = Path.of(".ci/run");
        must(page.contains("```sh\n.ci/run\n```"), "the page does not tell how the tests are run");
        must(Files.isExecutable(script), script + " can't be run");
        String steps = Files.readString(script);
        must(steps.contains("src/test/java/*Test.java") && steps.contains("../shared/tests/*.java"),
            script + " does not run every test");
    }
}
