import java.lang.reflect.Method;
import java.lang.reflect.Modifier;
import java.net.URL;
import java.net.URLClassLoader;
import java.nio.file.Files;
import java.nio.file.Path;
import java.util.ArrayList;
import java.util.List;
import java.util.regex.Matcher;
import java.util.regex.Pattern;
import javax.tools.ToolProvider;

/** Runs the examples of README.md as they stand there: an answer that is told behind a call must be the one it gives. */
public final class ReadmeTest {
    private static final Check check = new Check("ReadmeTest");
    private static final Path README = Path.of("README.md");
    private static final Path OUT = Path.of("build/readme");
    private static final Pattern TOLD = Pattern.compile("(x\\..*\\));\\s*// (-?\\d+|true|false)");

    public static void main(String[] args) throws Exception {
        String text = Files.readString(README);
        Matcher example = Pattern.compile("(?s)```java\n(.*?)```").matcher(text);
        int examples = 0;
        while (example.find()) {
            examples++;
            run("ReadmeExample" + examples, example.group(1).split("\n"));
        }
        check.yes("there are examples", examples > 0);
        tellsEveryCall(text);
        check.end();
    }

    private static void run(String name, String[] lines) throws Exception {
        StringBuilder source = new StringBuilder("public final class " + name
            + " { public static void run(java.util.List<String> answers) {\n");
        List<String> calls = new ArrayList<>();
        List<String> due = new ArrayList<>();
        for (String line : lines) {
            Matcher told = TOLD.matcher(line);
            if (told.matches()) {
                calls.add(told.group(1));
                due.add(told.group(2));
                source.append("answers.add(String.valueOf(").append(told.group(1)).append("));\n");
            } else {
                source.append(line).append("\n");
            }
        }
        List<String> answers = answers(name, source.append("}}\n").toString());
        check.same(name + " gives all answers", answers.size(), due.size());
        check.no(name + " tells answers", due.isEmpty());
        for (int i = 0; i < answers.size(); i++) {
            check.same(name + ", " + calls.get(i), answers.get(i), due.get(i));
        }
    }

    private static List<String> answers(String name, String source) throws Exception {
        Files.createDirectories(OUT);
        Path file = OUT.resolve(name + ".java");
        Files.writeString(file, source);
        int failed = ToolProvider.getSystemJavaCompiler().run(null, null, null, "-d", OUT.toString(),
            "-cp", System.getProperty("java.class.path"), file.toString());
        check.same(name + " compiles", failed, 0);
        List<String> answers = new ArrayList<>();
        if (failed == 0) {
            URL[] places = {OUT.toUri().toURL()};
            try (URLClassLoader loader = new URLClassLoader(places, ReadmeTest.class.getClassLoader())) {
                loader.loadClass(name).getMethod("run", List.class).invoke(null, answers);
            }
        }
        return answers;
    }

    private static void tellsEveryCall(String text) {
        for (Method method : Cellbrook.class.getDeclaredMethods()) {
            if (Modifier.isPublic(method.getModifiers())) {
                check.yes("it tells " + method.getName(), text.contains("`" + method.getName() + "`")
                    || text.contains("x." + method.getName() + "("));
            }
        }
    }
}
