import java.io.IOException;
import java.lang.reflect.Field;
import java.lang.reflect.Method;
import java.lang.reflect.Modifier;
import java.nio.file.Files;
import java.nio.file.Path;
import java.util.List;
import java.util.regex.Matcher;
import java.util.regex.Pattern;
import java.util.stream.Stream;

/** What README.md says is true of the class: its examples, the calls, the constants, and the tests. */
public final class ReadmeTest {
    private static final Pattern BLOCK = Pattern.compile("(?s)```java\n(.*?)```");
    private static final Pattern EXAMPLE = Pattern.compile("x\\.(\\w+\\(.*\\)); +// (-?\\d+)\\b.*");
    private static final Pattern SIGN = Pattern.compile("'(.)'");
    private static final Pattern FACE_NAME = Pattern.compile("public (?:static final )?int (\\w+)(?: = (-?\\d+);|\\()");

    private static int wrong = 0;

    private static void check(boolean good, String what) {
        if (!good) {
            wrong++;
            System.out.println("not so: " + what);
        }
    }

    /** A sign between quotes as its number, since a call that is told by a text takes numbers. */
    private static String withNumbers(String call) {
        return SIGN.matcher(call).replaceAll(sign -> String.valueOf((int) sign.group(1).charAt(0)));
    }

    private static int checkExamples(String block) {
        Called x = null;
        int examples = 0;
        for (String line : block.split("\n")) {
            Matcher example = EXAMPLE.matcher(line);
            if (line.equals("KnotStripes x = new KnotStripes();")) {
                x = new Called();
            } else if (x != null && example.matches()) {
                int got = x.tell(withNumbers(example.group(1)));
                check(got == Integer.parseInt(example.group(2)), line + " (the answer is " + got + ")");
                examples++;
            } else {
                check(false, "an example tells its answer: " + line);
            }
        }
        return examples;
    }

    private static void checkNames(String readme, String document) throws ReflectiveOperationException {
        for (Method m : KnotStripes.class.getDeclaredMethods()) {
            if (Modifier.isPublic(m.getModifiers())) {
                check(readme.contains("`" + m.getName() + "`"), "README.md names " + m.getName());
            }
        }
        Matcher name = FACE_NAME.matcher(document);
        while (name.find()) {
            if (name.group(2) == null) {
                check(readme.contains("`" + name.group(1) + "`"), "README.md names the document's " + name.group(1));
            } else {
                Field constant = KnotStripes.class.getField(name.group(1));
                check(constant.getInt(null) == Integer.parseInt(name.group(2)), constant + " is as the document says");
                check(readme.contains("`" + name.group(1) + "` (" + name.group(2) + ")"), "README.md tells " + constant);
            }
        }
    }

    private static void checkTests(String readme) throws IOException {
        List<String> tests;
        try (Stream<Path> files = Files.list(Path.of("src/test/java"))) {
            tests = files.map(file -> file.getFileName().toString().replace(".java", "")).sorted().toList();
        }
        for (String test : tests) {
            check(readme.contains("`" + test + "`"), "README.md names " + test);
        }
        Matcher named = Pattern.compile("`(\\w+Test)`").matcher(readme);
        while (named.find()) {
            check(tests.contains(named.group(1)), "there is a test " + named.group(1));
        }
    }

    public static void main(String[] args) throws IOException, ReflectiveOperationException {
        String readme = Files.readString(Path.of("README.md"));
        int examples = 0;
        Matcher block = BLOCK.matcher(readme);
        while (block.find()) {
            examples += checkExamples(block.group(1));
        }
        check(examples > 0, "README.md has examples");
        checkNames(readme, Files.readString(Path.of("../shared/DOC.md")));
        checkTests(readme);
        check(Files.isExecutable(Path.of(".ci/run")), ".ci/run can be run");
        System.out.println(wrong == 0 ? examples + " examples of README.md are so" : wrong + " things are not so");
        if (wrong != 0) {
            System.exit(1);
        }
    }
}
