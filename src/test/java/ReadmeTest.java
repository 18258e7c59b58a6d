import java.io.ByteArrayOutputStream;
import java.io.PrintStream;
import java.lang.reflect.Field;
import java.lang.reflect.Method;
import java.lang.reflect.Modifier;
import java.net.URL;
import java.net.URLClassLoader;
import java.nio.charset.StandardCharsets;
import java.nio.file.Files;
import java.nio.file.Path;
import java.util.ArrayList;
import java.util.List;
import java.util.regex.Matcher;
import java.util.regex.Pattern;
import javax.tools.JavaCompiler;
import javax.tools.ToolProvider;

/** What README.md says of an answer is what the class answers: its program is compiled and run. */
public final class ReadmeTest {
    private static final Path PLACE = Path.of("build", "readme");
    private static final Pattern SHOWN = Pattern.compile("^ +show\\((.*)\\); *// (-?\\d+)(?:: ([A-Z]+)\\b)?.*$");

    public static void main(String[] args) throws Exception {
        String readme = Files.readString(Path.of("README.md"), StandardCharsets.UTF_8);
        String program = between(readme, "```java\n", "```");
        compile(program);
        answersAreAsWritten(program, linesOf(outputOfExample()));
        nothingOfTheFaceIsLeftOut(readme, program);
        constantsAreAsWritten(readme);
        Expect.finish();
    }

    private static String between(String all, String before, String behind) {
        int from = all.indexOf(before) + before.length();
        return all.substring(from, all.indexOf(behind, from));
    }

    private static List<String> linesOf(String all) {
        return all.lines().toList();
    }

    private static void compile(String program) throws Exception {
        Files.createDirectories(PLACE);
        Path source = PLACE.resolve("Example.java");
        Files.writeString(source, program, StandardCharsets.UTF_8);
        JavaCompiler compiler = ToolProvider.getSystemJavaCompiler();
        int failed = compiler.run(null, null, null, "-Xlint:all", "-Werror",
            "-cp", System.getProperty("java.class.path"), "-d", PLACE.toString(), source.toString());
        Expect.due("compiling the program of README.md", failed, 0);
    }

    private static String outputOfExample() throws Exception {
        PrintStream usual = System.out;
        ByteArrayOutputStream shown = new ByteArrayOutputStream();
        try (URLClassLoader loader = new URLClassLoader(new URL[] {PLACE.toUri().toURL()})) {
            System.setOut(new PrintStream(shown, true, StandardCharsets.UTF_8));
            Method main = loader.loadClass("Example").getMethod("main", String[].class);
            main.invoke(null, (Object) new String[0]);
        } finally {
            System.setOut(usual);
        }
        return shown.toString(StandardCharsets.UTF_8);
    }

    private static void answersAreAsWritten(String program, List<String> shown) throws Exception {
        List<String> calls = new ArrayList<>();
        for (String line : linesOf(program)) {
            Matcher matcher = SHOWN.matcher(line);
            if (matcher.matches()) {
                int k = calls.size();
                calls.add(matcher.group(1));
                Expect.same("README.md, " + matcher.group(1), k < shown.size() ? shown.get(k) : "nothing", matcher.group(2));
                if (Integer.parseInt(matcher.group(2)) < 0) {
                    Expect.same("README.md, the name at " + matcher.group(1), String.valueOf(matcher.group(3)),
                        nameOf(Integer.parseInt(matcher.group(2))));
                }
            }
        }
        Expect.due("answers shown without one written behind them", shown.size(), calls.size());
    }

    private static List<Field> constants() {
        List<Field> all = new ArrayList<>();
        for (Field field : UnitDesk.class.getFields()) {
            all.add(field);
        }
        return all;
    }

    private static String nameOf(int answer) throws Exception {
        for (Field constant : constants()) {
            if (constant.getInt(null) == answer) {
                return constant.getName();
            }
        }
        return "none";
    }

    private static void nothingOfTheFaceIsLeftOut(String readme, String program) throws Exception {
        for (Method method : UnitDesk.class.getDeclaredMethods()) {
            if (Modifier.isPublic(method.getModifiers())) {
                String name = method.getName();
                Expect.due("uses of " + name + " in the program", program.contains("show(desk." + name + "(") ? 1 : 0, 1);
                Expect.due("row of " + name + " in the table", readme.contains("\n| `" + name + "(") ? 1 : 0, 1);
            }
        }
        for (Field constant : constants()) {
            String written = "// " + constant.getInt(null) + ": " + constant.getName();
            Expect.due("program shows " + written, program.contains(written) ? 1 : 0, 1);
        }
    }

    private static void constantsAreAsWritten(String readme) throws Exception {
        String sentence = between(readme, "The constants are ", "\n\n");
        for (Field constant : constants()) {
            String written = "`" + constant.getName() + "` " + constant.getInt(null);
            Expect.due("sentence with " + written, sentence.contains(written) ? 1 : 0, 1);
        }
    }
}
