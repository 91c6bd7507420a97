import java.io.IOException;
import java.lang.reflect.Field;
import java.lang.reflect.Method;
import java.lang.reflect.Modifier;
import java.nio.file.Files;
import java.nio.file.Path;
import java.util.ArrayList;
import java.util.List;
import java.util.Set;
import java.util.TreeSet;
import java.util.regex.Matcher;
import java.util.regex.Pattern;

/** The face of the document, and those rules of LANGUAGE.md that a look at the source can tell. */
public final class Rules {
    private static final String[] FACE = {
        "int author(int,int)", "int work(int,int)", "int writer(int)", "boolean seed(int)",
        "int feed(int,int,int,int,int)", "boolean left(int,int)", "int bit(int,int,int,int,int)", "int way(int,int)",
        "int plan(int)", "int habit(int)", "int table(int)", "int quote(int,int,int,int,int)", "int bitIs(int,int)",
        "int apart(int,int)", "int near(int,int,int)", "int nearness(int,int)", "long same(int,int)",
        "int stood(int,int,int)", "long slips(int,int,int)", "int slip(int,int,int)", "long shared(int,int,int,int)",
        "int groups(int,int)", "int from(int,int,int)", "int there(int)", "boolean ahead(int,int)", "int order(int,int)",
        "long orders(int)", "int sure(int,int)", "long truth(long,int,int)", "long length(int,int,int)",
        "int span(int,int,int)", "long nobody(int,int)", "int whose(int,int)", "long men(int,int)",
        "boolean gives(int,int,int)", "int given(int,int)", "long wrong(int)", "int moves(int)", "int check(int,int)",
        "int count(int)",
    };
    private static final String[] RULED_OUT = {
        "\\bthrow\\b", "\\btry\\b", "\\bcatch\\b", "\\bsynchronized\\b", "\\bassert\\b", "\\bimport\\b", "\\bpackage\\b",
        "->", "::", "Exact\\b", "\\bSystem\\.(?!arraycopy)", "\\bThread\\b", "\\bRandom\\b", "\\bhashCode\\b", "\\btoString\\b",
        "\\bprotected\\b", "\\bvar\\b", "\\bObject\\b", "\\bstatic\\s*\\{", "\\bdouble\\b", "\\bfloat\\b",
    };
    private static int wrong;

    private static void fault(String what) {
        wrong++;
        System.out.println(what);
    }

    public static void main(String[] args) throws IOException {
        face();
        String root = System.getProperty("project.root", ".");
        String source = Files.readString(Path.of(root, "src/main/java/QuotedBooks.java"));
        String code = source.replaceAll("(?s)/\\*.*?\\*/", "").replaceAll("//[^\n]*", "")
                .replaceAll("\"(\\\\.|[^\"\\\\])*\"", "\"\"").replaceAll("'(\\\\.|[^'\\\\])'", "' '");
        for (String pattern : RULED_OUT) {
            Matcher m = Pattern.compile(pattern).matcher(code);
            if (m.find()) fault("ruled out: " + m.group());
        }
        if (source.chars().anyMatch(c -> c > 126)) fault("a sign above 126");
        methods(code);
        System.out.println(wrong == 0 ? "the rules are kept" : wrong + " rules are broken");
        System.exit(wrong == 0 ? 0 : 1);
    }

    private static void face() {
        Set<String> want = new TreeSet<>(List.of(FACE));
        Set<String> got = new TreeSet<>();
        Set<String> names = new TreeSet<>();
        for (Method m : QuotedBooks.class.getDeclaredMethods()) {
            if (Modifier.isPrivate(m.getModifiers())) continue;
            List<String> types = new ArrayList<>();
            for (Class<?> t : m.getParameterTypes()) types.add(t.getName());
            String sign = m.getReturnType().getName() + " " + m.getName() + "(" + String.join(",", types) + ")";
            got.add(Modifier.isPublic(m.getModifiers()) ? sign : "not public: " + sign);
            names.add(m.getName());
        }
        if (!want.equals(got)) fault("the face is " + got);
        for (Field f : QuotedBooks.class.getDeclaredFields()) {
            boolean isNone = f.getName().equals("NONE") && Modifier.isPublic(f.getModifiers());
            if (!isNone && !Modifier.isPrivate(f.getModifiers())) fault("a field that shows: " + f);
            if (Modifier.isStatic(f.getModifiers()) && !Modifier.isFinal(f.getModifiers())) fault("not final: " + f);
        }
        int mods = QuotedBooks.class.getModifiers();
        if (!Modifier.isPublic(mods) || !Modifier.isFinal(mods)) fault("the class is public and final");
        Class<?>[] inside = QuotedBooks.class.getDeclaredClasses();
        if (inside.length > 11) fault("too many classes: " + inside.length);
        for (Class<?> c : inside) {
            if (!Modifier.isStatic(c.getModifiers())) fault("not static: " + c);
            for (Method m : c.getDeclaredMethods()) {
                if (names.contains(m.getName())) fault("a name of the face: " + m);
                if (m.getParameterCount() > 7) fault("more than seven parameters: " + m);
            }
            int fields = 0;
            for (Field f : c.getDeclaredFields()) {
                if (!Modifier.isStatic(f.getModifiers())) fields++;
                else if (!Modifier.isFinal(f.getModifiers())) fault("not final: " + f);
            }
            if (fields > 20) fault("more than twenty fields: " + c);
        }
    }

    /** Methods begin with a line that ends in ") {" at one or two steps and end with a } as deep. */
    private static void methods(String code) {
        String[] lines = code.split("\n");
        for (int i = 0; i < lines.length; i++) {
            Matcher m = Pattern.compile("^((?:    ){1,2})[a-z][\\w\\[\\] ]* \\w+\\(.*\\) \\{$").matcher(lines[i]);
            if (!m.find()) continue;
            int end = i;
            while (!lines[end].equals(m.group(1) + "}")) end++;
            if (end - i > 60) fault("longer than sixty lines: " + lines[i].trim());
        }
    }
}
