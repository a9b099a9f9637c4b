import java.io.IOException;
import java.nio.file.Files;
import java.nio.file.Path;
import java.util.regex.Matcher;
import java.util.regex.Pattern;
import javax.tools.ToolProvider;

/** The example in README.md compiles, and each of its calls answers what stands behind it there. */
public final class ReadmeTest {
    private static final Pattern BLOCK = Pattern.compile("```java\n(.*?)```", Pattern.DOTALL);
    private static final Pattern ANSWER = Pattern.compile("(office\\.\\w+\\([^;]*\\)); +// (\\S+)");

    private ReadmeTest() {
    }

    public static void main(String[] args) throws Exception {
        String readme = Files.readString(Path.of("README.md"));
        Matcher block = BLOCK.matcher(readme);
        boolean found = block.find();
        Check.due("README.md has an example", found, true);
        if (found) {
            run(block.group(1));
        }
        everyCallIsTold(readme);
        Check.finish("ReadmeTest");
    }

    private static void run(String example) throws Exception {
        Matcher answers = ANSWER.matcher(example);
        StringBuilder program = new StringBuilder();
        int many = 0;
        while (answers.find()) {
            many++;
            String due = answers.group(2).replaceAll("^(NONE|NOTHING)$", "SpongeClerks.$1");
            String looked = "Check.due(\"README.md: " + answers.group(1) + "\", " + answers.group(1) + ", " + due + ");";
            answers.appendReplacement(program, Matcher.quoteReplacement(looked));
        }
        answers.appendTail(program);
        Check.due("answers in the example", many > 20, true);
        Check.due("the example compiles", compile(program.toString()), true);
        Class.forName("Example").getMethod("main", String[].class).invoke(null, (Object) new String[0]);
    }

    /** It goes where this test's own classes are, so that it sees Check. */
    private static boolean compile(String program) throws IOException {
        String classes = System.getProperty("java.class.path");
        Path file = Path.of(classes, "Example.java");
        Files.writeString(file, program);
        return ToolProvider.getSystemJavaCompiler()
                .run(null, null, null, "-cp", classes, "-d", classes, file.toString()) == 0;
    }

    private static void everyCallIsTold(String readme) {
        for (java.lang.reflect.Method call : SpongeClerks.class.getDeclaredMethods()) {
            boolean told = Pattern.compile("\\b" + call.getName() + "[(`]").matcher(readme).find();
            if (java.lang.reflect.Modifier.isPublic(call.getModifiers())) {
                Check.due("README.md tells of " + call.getName(), told, true);
            }
        }
    }
}
