import java.io.File;
import java.io.IOException;
import java.io.UncheckedIOException;
import java.lang.reflect.Field;
import java.lang.reflect.Method;
import java.lang.reflect.Modifier;
import java.net.URL;
import java.net.URLClassLoader;
import java.nio.file.Files;
import java.nio.file.Path;
import java.util.ArrayList;
import java.util.List;
import java.util.Set;
import java.util.TreeSet;
import java.util.regex.Matcher;
import java.util.regex.Pattern;
import javax.tools.ToolProvider;

/** README.md: that it says what is so. */
public final class ReadmeTest {
    private static final Path README = Path.of("README.md");
    private static final Path TESTS = Path.of("src", "test", "java");
    private static final Pattern EXAMPLE = Pattern.compile("```java\n(.*?)```", Pattern.DOTALL);
    private static final Pattern ANSWERED = Pattern.compile("(x\\..*\\));\\s*// -> (\\S+).*");
    private static final Due due = new Due("README.md");

    private static String text;

    public static void main(String[] args) throws IOException {
        text = Files.readString(README);
        due.holds("(the examples answer as they say)", ReadmeTest::examplesAnswerAsTheySay);
        due.holds("(every call is named, with its parameters)", ReadmeTest::namesEveryCall);
        due.holds("(every constant is named)", ReadmeTest::namesEveryConstant);
        due.holds("(every test is named, and no other)", ReadmeTest::namesEveryTest);
        due.end();
    }

    private static void examplesAnswerAsTheySay() {
        Matcher example = EXAMPLE.matcher(text);
        int examples = 0;
        while (example.find()) {
            examples++;
            for (String[] answer : answersOf("Example" + examples, example.group(1))) {
                due.same(answer[0], answer[1], answer[2]);
            }
        }
        due.is("examples", examples, 2);
    }

    /** Each call of an example with what it answered and what README.md says; other lines are run as they are. */
    private static List<String[]> answersOf(String name, String example) {
        StringBuilder source = new StringBuilder("public final class " + name + " {\n");
        source.append("public static void run(java.util.List<String[]> answers) {\n");
        for (String line : example.split("\n")) {
            Matcher answered = ANSWERED.matcher(line);
            if (answered.matches()) {
                String want = answered.group(2);
                source.append(String.format("answers.add(new String[] {\"%s\", \"\" + %s, \"\" + %s});%n",
                    answered.group(1), answered.group(1), want.matches("[A-Z].*") ? "WoundWaitLocks." + want : want));
            } else {
                due.no("a call without an answer: " + line, line.startsWith("x."));
                source.append(line).append('\n');
            }
        }
        source.append("}\n}\n");
        return runOf(name, source.toString());
    }

    private static List<String[]> runOf(String name, String source) {
        List<String[]> answers = new ArrayList<>();
        try {
            Path out = Files.createTempDirectory("readme");
            Path file = Files.writeString(out.resolve(name + ".java"), source);
            String path = System.getProperty("java.class.path");
            int failed = ToolProvider.getSystemJavaCompiler().run(null, null, null, "-cp", path, "-d", out.toString(),
                file.toString());
            due.is("the compiler's exit code of " + name, failed, 0);
            try (URLClassLoader loader = new URLClassLoader(new URL[] {out.toUri().toURL()})) {
                loader.loadClass(name).getMethod("run", List.class).invoke(null, answers);
            }
            for (File made : out.toFile().listFiles()) {
                Files.delete(made.toPath());
            }
            Files.delete(out);
        } catch (IOException unread) {
            throw new UncheckedIOException(unread);
        } catch (ReflectiveOperationException notRun) {
            throw new IllegalStateException(notRun);
        }
        return answers;
    }

    private static void namesEveryCall() {
        for (Method method : WoundWaitLocks.class.getDeclaredMethods()) {
            if (Modifier.isPublic(method.getModifiers())) {
                int count = method.getParameterCount();
                String parameters = count == 0 ? "" : "\\w+(, \\w+){" + (count - 1) + "}";
                String call = "`" + method.getName() + "\\(" + parameters + "\\)`";
                due.yes("README.md has " + call, Pattern.compile("(?m)^\\| " + call + " \\|").matcher(text).find());
            }
        }
    }

    private static void namesEveryConstant() {
        for (Field field : WoundWaitLocks.class.getDeclaredFields()) {
            if (Modifier.isPublic(field.getModifiers())) {
                due.yes("README.md has " + field.getName(), text.contains("`" + field.getName() + "`"));
            }
        }
    }

    private static void namesEveryTest() {
        Set<String> named = new TreeSet<>();
        Matcher name = Pattern.compile("`(\\w+Test)`").matcher(text);
        while (name.find()) {
            named.add(name.group(1));
        }
        Set<String> found = new TreeSet<>();
        for (String file : TESTS.toFile().list()) {
            if (file.endsWith("Test.java")) {
                found.add(file.replace(".java", ""));
            }
        }
        due.same("the tests that README.md names", named.toString(), found.toString());
    }
}
