import java.io.ByteArrayOutputStream;
import java.io.IOException;
import java.io.PrintStream;
import java.lang.reflect.Method;
import java.lang.reflect.Modifier;
import java.nio.charset.StandardCharsets;
import java.nio.file.DirectoryStream;
import java.nio.file.Files;
import java.nio.file.Path;
import java.util.ArrayList;
import java.util.List;

/** README.md: its example is the program Example, shows every call, and the class answers what is shown. */
public final class ReadmeTest {
    private static final Check check = new Check("ReadmeTest");
    private static final Path README = Path.of("README.md");
    private static final Path TESTS = Path.of("src", "test", "java");

    public static void main(String[] args) throws IOException {
        String readme = Files.readString(README);
        String example = codeOf(readme);
        check.same("the blocks of README.md", example, Files.readString(TESTS.resolve("Example.java")));
        answers(example);
        showsEveryCall(example);
        namesEveryTest(readme);
        check.end();
    }

    /** All blocks of Java, with an empty line between each two. */
    private static String codeOf(String readme) {
        StringBuilder made = new StringBuilder();
        boolean inside = false;
        for (String line : readme.split("\n", -1)) {
            if (line.equals("```java")) {
                inside = true;
                made.append(made.length() == 0 ? "" : "\n");
            } else if (line.equals("```")) {
                inside = false;
            } else if (inside) {
                made.append(line).append('\n');
            }
        }
        return made.toString();
    }

    private static void answers(String example) {
        List<String> calls = shownCalls(example);
        String[] said = whatItSays().split("\n", -1);
        check.due("how many answers it prints", said.length - 1, calls.size());
        for (int at = 0; at < calls.size() && at < said.length; at++) {
            String call = calls.get(at);
            check.same(call, said[at], shownAnswer(call));
        }
    }

    private static List<String> shownCalls(String example) {
        List<String> calls = new ArrayList<>();
        for (String line : example.split("\n")) {
            if (line.contains("say(x.")) {
                calls.add(line.trim());
            }
        }
        return calls;
    }

    /** What stands in the line's comment, ahead of a colon. */
    private static String shownAnswer(String call) {
        int from = call.indexOf("// ");
        if (from < 0) {
            return "no answer is shown";
        }
        int to = call.indexOf(':', from);
        return call.substring(from + 3, to < 0 ? call.length() : to);
    }

    private static String whatItSays() {
        PrintStream usual = System.out;
        ByteArrayOutputStream said = new ByteArrayOutputStream();
        System.setOut(new PrintStream(said, true, StandardCharsets.UTF_8));
        Example.main(new String[0]);
        System.setOut(usual);
        return said.toString(StandardCharsets.UTF_8).replace(System.lineSeparator(), "\n");
    }

    private static void showsEveryCall(String example) {
        for (Method one : MiddleAlgebras.class.getDeclaredMethods()) {
            if (Modifier.isPublic(one.getModifiers())) {
                check.due(one.getName() + "() is shown with an answer", example.contains("say(x." + one.getName() + "("), true);
            }
        }
    }

    private static void namesEveryTest(String readme) throws IOException {
        try (DirectoryStream<Path> tests = Files.newDirectoryStream(TESTS, "*Test.java")) {
            for (Path one : tests) {
                String name = one.getFileName().toString().replace(".java", "");
                check.due(name + " is named", readme.contains(name), true);
            }
        }
    }
}
