import java.io.IOException;
import java.nio.file.Files;
import java.nio.file.Path;

/** What is due by one sentence of the document after the other; each must stand there as it is quoted, if it is at hand. */
final class Sheet {
    private final String document = readDocument();
    private int sentences;
    private int wrong;
    private String sentence = "";

    private static String readDocument() {
        Path path = Path.of(System.getProperty("project.root", "."), "..", "shared", "DOC.md");
        try {
            return Files.exists(path) ? oneLine(Files.readString(path)) : null;
        } catch (IOException e) {
            throw new IllegalStateException("can't read " + path, e);
        }
    }

    private static String oneLine(String text) {
        return text.replaceAll("\\s+", " ");
    }

    /** What is due from here on is due by this sentence. */
    void says(String quote) {
        sentence = quote;
        sentences++;
        if (document != null && !document.contains(oneLine(quote))) fault("doesn't stand in the document");
    }

    void fault(String what) {
        wrong++;
        System.out.println("\"" + sentence + "\": " + what);
    }

    void due(String what, long got, long want) {
        if (got != want) fault(what + " answered " + got + ", due is " + want);
    }

    void due(String what, boolean got, boolean want) {
        if (got != want) fault(what + " answered " + got + ", due is " + want);
    }

    /** Ends the program: with 1 if something was not as due. */
    void end(String what) {
        System.out.println(what + ": " + sentences + " sentences, " + wrong + " answers not as due");
        System.exit(wrong == 0 ? 0 : 1);
    }
}
