import java.io.IOException;
import java.nio.file.Files;
import java.nio.file.Path;
import java.util.regex.Matcher;
import java.util.regex.Pattern;

/** What of LANGUAGE.md can be seen in the text of the class. */
public final class LanguageTest {
    private static final String[] NEVER = {
        "->", "::", "\\btry\\b", "\\bcatch\\b", "\\bfinally\\b", "\\bsynchronized\\b", "\\bassert\\b",
        "\\bExact\\b|Exact\\(", "\\bpackage\\b", "\\bprotected\\b", "\\bvar\\b", "\\bvolatile\\b", "\\bObject\\b",
        "hashCode", "getMessage", "\\bThread\\b", "java\\.(io|nio|net|time)", "\\bdouble\\b", "\\bfloat\\b",
        "ordinal\\(", "\\bstatic\\s*\\{", "\\bSystem\\.(?!arraycopy)", "\\t", "[^\\n -~]",
        "\"\\s*\\+", "\\+\\s*\"", "while \\(true\\)", "for \\(;;\\)",
    };
    private static final String[] LIBRARY = {
        "Math.max", "Math.min", "Integer.bitCount", "System.arraycopy",
    };

    private LanguageTest() {
    }

    private static String withoutComments(String text) {
        return text.replaceAll("(?s)/\\*.*?\\*/", "").replaceAll("//[^\\n]*", "");
    }

    private static void nothingForbidden(String code) {
        for (String pattern : NEVER) {
            Matcher m = Pattern.compile(pattern).matcher(code);
            Check.due("rule against " + pattern, m.find(), false);
        }
    }

    private static void onlyTheLibrary(String code) {
        Matcher m = Pattern.compile("\\b(Math|Integer|Long|System|Arrays|String|Character)\\.\\w+").matcher(code);
        while (m.find()) {
            Check.due("library: " + m.group(), java.util.List.of(LIBRARY).contains(m.group()), true);
        }
        m = Pattern.compile("import ([\\w.]+);").matcher(code);
        while (m.find()) {
            Check.due("import " + m.group(1), m.group(1).equals("java.util.NoSuchElementException"), true);
        }
        m = Pattern.compile("throw new (\\w+)\\(").matcher(code);
        while (m.find()) {
            String thrown = m.group(1);
            Check.due("throw " + thrown, thrown.matches("NoSuchElementException|IllegalArgumentException"), true);
        }
    }

    private static void staticsAreConstant(String code) {
        Matcher m = Pattern.compile("\\bstatic (?!final|class|boolean \\w+\\(|int \\w+\\(|void \\w+\\(|Word find\\()[^\\n]*")
                .matcher(code);
        while (m.find()) {
            Check.due("static: " + m.group(), false, true);
        }
    }

    private static void shortMethods(String code) {
        String[] lines = code.split("\n");
        int from = -1;
        for (int i = 0; i < lines.length; i++) {
            if (lines[i].matches(" {4,8}[\\w\\[\\] ]+\\([^;]*(\\{|\\))?") && !lines[i].contains(" new ")) {
                from = i;
            }
            if (lines[i].matches(" {4,8}\\}") && from >= 0) {
                Check.due("a method of " + (i - from) + " lines from " + (from + 1), i - from < 60, true);
                from = -1;
            }
        }
        Matcher m = Pattern.compile("(?m)^ {4,8}[\\w\\[\\] ]+\\(([^)]*)\\)").matcher(code);
        while (m.find()) {
            Check.due("parameters of " + m.group(), m.group(1).split(",").length <= 7, true);
        }
    }

    public static void main(String[] args) throws IOException {
        String text = Files.readString(Path.of("src/main/java/GivenAway.java"));
        String code = withoutComments(text);
        nothingForbidden(code);
        onlyTheLibrary(code);
        staticsAreConstant(code);
        shortMethods(code);
        Check.end("LanguageTest");
    }
}
