import java.io.ByteArrayOutputStream;
import java.io.File;
import java.io.IOException;
import java.io.PrintStream;
import java.net.URL;
import java.net.URLClassLoader;
import java.nio.file.Files;
import java.nio.file.Path;
import java.util.ArrayList;
import java.util.Comparator;
import java.util.List;
import java.util.regex.Matcher;
import java.util.regex.Pattern;
import java.util.stream.Stream;
import javax.tools.JavaCompiler;
import javax.tools.ToolProvider;

/** README.md holds to what it says: the document's words, what the example prints, which tests and classes there are. */
public final class Readme {
    private static final Path ROOT = Path.of(System.getProperty("project.root", "."));
    private static int wrong;

    public static void main(String[] args) throws Exception {
        String readme = Files.readString(ROOT.resolve("README.md"));
        String document = Files.readString(ROOT.resolve("../shared/DOC.md"));
        callsAreTold(readme, promises(document));
        quotesStandInTheDocument(readme, oneLine(document));
        examplePrintsWhatIsTold(readme);
        testsAreNamed(readme);
        classesAreNamed(readme);
        System.out.println("README.md: " + wrong + " things that do not hold");
        System.exit(wrong == 0 ? 0 : 1);
    }

    private static void fault(String what) {
        wrong++;
        System.out.println(what);
    }

    private static String oneLine(String text) {
        return text.replaceAll("\\s+", " ");
    }

    /** What stands in the first group, for each place where it is found. */
    private static List<String> all(String pattern, String text) {
        List<String> found = new ArrayList<>();
        Matcher m = Pattern.compile(pattern, Pattern.MULTILINE | Pattern.DOTALL).matcher(text);
        while (m.find()) found.add(m.group(1));
        return found;
    }

    private static List<String> promises(String document) {
        List<String> promises = all("^## Promise \\d+: [^\n]*\n\n(`[^\n]*)$", document);
        if (promises.size() != 41) fault("promises that are found in the document: " + promises.size());
        return promises;
    }

    private static void callsAreTold(String readme, List<String> promises) {
        List<String> told = all("^- (`[^\n]*)$", readme);
        for (String promise : promises) {
            if (promise.startsWith("`QuotedBooks()`: ")) {
                String madeWith = promise.substring(promise.indexOf(": ") + 2);
                if (!readme.contains("\n> " + madeWith + "\n")) fault("what a new object has is not told");
            } else if (!told.remove(promise)) {
                fault("not told: " + promise);
            }
        }
        for (String call : told) fault("no promise: " + call);
    }

    private static void quotesStandInTheDocument(String readme, String document) {
        List<String> quotes = all("^> ([^\n]*)$", readme);
        if (quotes.isEmpty()) fault("nothing is quoted");
        for (String quote : quotes) {
            if (!document.contains(oneLine(quote))) fault("doesn't stand in the document: " + quote);
        }
    }

    private static void examplePrintsWhatIsTold(String readme) throws Exception {
        List<String> programs = all("^```java\n(.*?)^```$", readme);
        List<String> prints = all("^```text\n(.*?)^```$", readme);
        if (programs.size() != 1 || prints.size() != 1) {
            fault("there is one example, and what it prints");
            return;
        }
        Path out = Files.createTempDirectory("readme");
        try {
            String printed = compiles(programs.get(0), out) ? run(out) : "(it does not compile)";
            if (!printed.equals(prints.get(0))) fault("the example prints\n" + printed);
        } finally {
            remove(out);
        }
    }

    private static boolean compiles(String program, Path out) throws IOException {
        Path source = Files.writeString(out.resolve("Example.java"), program);
        JavaCompiler compiler = ToolProvider.getSystemJavaCompiler();
        if (compiler == null) throw new IllegalStateException("java is not that of a JDK");
        String classes = System.getProperty("java.class.path") + File.pathSeparator + out;
        return compiler.run(null, null, null, "-classpath", classes, "-d", out.toString(), source.toString()) == 0;
    }

    private static String run(Path out) throws Exception {
        PrintStream screen = System.out;
        ByteArrayOutputStream bytes = new ByteArrayOutputStream();
        try (URLClassLoader loader = new URLClassLoader(new URL[] {out.toUri().toURL()})) {
            System.setOut(new PrintStream(bytes, true));
            loader.loadClass("Example").getMethod("main", String[].class).invoke(null, (Object) new String[0]);
        } finally {
            System.setOut(screen);
        }
        return bytes.toString().replace(System.lineSeparator(), "\n");
    }

    private static void remove(Path directory) throws IOException {
        try (Stream<Path> paths = Files.walk(directory)) {
            for (Path path : paths.sorted(Comparator.reverseOrder()).toList()) Files.delete(path);
        }
    }

    private static void testsAreNamed(String readme) throws IOException {
        List<String> named = new ArrayList<>(all("`(\\w+)`", section(readme, "How to run its tests")));
        try (Stream<Path> tests = Files.list(ROOT.resolve("src/test/java"))) {
            for (Path test : tests.sorted().toList()) {
                String name = test.getFileName().toString().replace(".java", "");
                if (!named.contains(name)) fault("a test that is not named: " + name);
            }
        }
    }

    private static void classesAreNamed(String readme) {
        List<String> named = all("`(\\w+)`", section(readme, "How it is built"));
        for (Class<?> inside : QuotedBooks.class.getDeclaredClasses()) {
            if (!named.remove(inside.getSimpleName())) fault("a class that is not named: " + inside.getSimpleName());
        }
        named.remove("QuotedBooks");
        for (String name : named) fault("no class: " + name);
    }

    private static String section(String readme, String title) {
        List<String> sections = all("^## " + title + "\n(.*?)(?=^## |\\z)", readme);
        if (sections.size() != 1) fault("no section: " + title);
        return sections.isEmpty() ? "" : sections.get(0);
    }
}
