import java.io.ByteArrayOutputStream;
import java.io.IOException;
import java.io.PrintStream;
import java.lang.reflect.Method;
import java.lang.reflect.Modifier;
import java.net.URL;
import java.net.URLClassLoader;
import java.nio.charset.StandardCharsets;
import java.nio.file.Files;
import java.nio.file.Path;
import java.util.ArrayList;
import java.util.Comparator;
import java.util.List;
import java.util.regex.Matcher;
import java.util.regex.Pattern;
import java.util.stream.Stream;
import javax.tools.JavaCompiler;
import javax.tools.ToolProvider;

/** README.md says what holds: its program answers what stands behind each call, and no call is left out. */
public final class ReadmeTest {
    private ReadmeTest() {
    }

    private static String program(String page) {
        Matcher m = Pattern.compile("(?s)```java\\n(.*?)```").matcher(page);
        return m.find() ? m.group(1) : "";
    }

    private static List<String> told(String program) {
        List<String> answers = new ArrayList<>();
        Matcher m = Pattern.compile("(?m)^ *show\\(.*\\); *// (.*)$").matcher(program);
        while (m.find()) {
            answers.add(m.group(1));
        }
        return answers;
    }

    private static boolean compiles(Path dir, String program) throws IOException {
        Path file = Files.writeString(dir.resolve("Example.java"), program);
        JavaCompiler compiler = ToolProvider.getSystemJavaCompiler();
        String classes = System.getProperty("java.class.path");
        return compiler != null
                && compiler.run(null, null, null, "-cp", classes, "-d", dir.toString(), file.toString()) == 0;
    }

    private static List<String> printed(Path dir) throws IOException, ReflectiveOperationException {
        ByteArrayOutputStream bytes = new ByteArrayOutputStream();
        PrintStream out = System.out;
        try (URLClassLoader loader = new URLClassLoader(new URL[] {dir.toUri().toURL()})) {
            System.setOut(new PrintStream(bytes, true, StandardCharsets.UTF_8));
            loader.loadClass("Example").getMethod("main", String[].class).invoke(null, (Object) new String[0]);
        } finally {
            System.setOut(out);
        }
        return bytes.toString(StandardCharsets.UTF_8).lines().toList();
    }

    private static void runsAsTold(String page) throws IOException, ReflectiveOperationException {
        String program = program(page);
        List<String> told = told(program);
        Check.due("the program tells answers", told.size() > 20, true);
        Path dir = Files.createTempDirectory("readme");
        try {
            boolean fine = compiles(dir, program);
            Check.due("the program compiles", fine, true);
            List<String> printed = fine ? printed(dir) : List.of();
            Check.due("how many answers the program prints", printed.size(), told.size());
            for (int i = 0; i < Math.min(told.size(), printed.size()); i++) {
                Check.due("answer " + (i + 1) + " is told as " + told.get(i) + ", is " + printed.get(i),
                        printed.get(i).equals(told.get(i)), true);
            }
        } finally {
            remove(dir);
        }
    }

    private static void remove(Path dir) throws IOException {
        try (Stream<Path> inside = Files.walk(dir)) {
            for (Path path : inside.sorted(Comparator.reverseOrder()).toList()) {
                Files.delete(path);
            }
        }
    }

    /** Each call stands on the page outside the program, with as many arguments as it takes. */
    private static void namesEveryCall(String page) {
        String words = page.replace(program(page), "");
        for (Method method : GivenAway.class.getDeclaredMethods()) {
            if (Modifier.isPublic(method.getModifiers())) {
                int more = method.getParameterCount() - 1;
                String arguments = more < 0 ? "" : "\\w+(, \\w+){" + more + "}";
                boolean named = Pattern.compile("`" + method.getName() + "\\(" + arguments + "\\)`").matcher(words).find();
                Check.due("README.md names " + method.getName(), named, true);
            }
        }
    }

    public static void main(String[] args) throws IOException, ReflectiveOperationException {
        String page = Files.readString(Path.of("README.md"));
        runsAsTold(page);
        namesEveryCall(page);
        Check.end("ReadmeTest");
    }
}
