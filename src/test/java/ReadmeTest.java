import java.io.ByteArrayOutputStream;
import java.io.IOException;
import java.io.PrintStream;
import java.lang.reflect.Field;
import java.lang.reflect.Method;
import java.lang.reflect.Modifier;
import java.nio.file.Files;
import java.nio.file.Path;
import java.util.List;
import java.util.stream.Collectors;
import java.util.stream.Stream;

/** README.md: its example is the one that runs and prints what it says, and it names what there is. */
public final class ReadmeTest {
    private static final Path TESTS = Path.of("src", "test", "java");

    public static void main(String[] args) throws Exception {
        String readme = Files.readString(Path.of("README.md"));
        example(readme);
        callsAndConstants(readme);
        tests(readme);
        scripts(readme);
        Checks.end("ReadmeTest");
    }

    private static void contains(String what, String readme, String part) {
        Checks.due("README.md has " + what, readme.contains(part) ? 1 : 0, 1);
    }

    private static void example(String readme) throws IOException {
        contains("Example.java", readme, "```java\n" + Files.readString(TESTS.resolve("Example.java")) + "```\n");
        PrintStream before = System.out;
        ByteArrayOutputStream printed = new ByteArrayOutputStream();
        System.setOut(new PrintStream(printed, true));
        try {
            Example.main(new String[0]);
        } finally {
            System.setOut(before);
        }
        contains("what Example prints", readme, "```text\n" + printed.toString().replace("\r\n", "\n") + "```\n");
    }

    /** Each call as `int run(int cell)` or the like, with the names that the class gives to what it is told. */
    private static void callsAndConstants(String readme) throws Exception {
        for (Field field : NotebookWeir.class.getFields()) {
            contains(field.getName(), readme, "`" + field.getName() + "` " + field.getInt(null));
        }
        String source = Files.readString(Path.of("src", "main", "java", "NotebookWeir.java"));
        for (Method method : NotebookWeir.class.getDeclaredMethods()) {
            if (Modifier.isPublic(method.getModifiers())) {
                String head = " " + method.getName() + "(";
                int from = source.indexOf("public " + method.getReturnType() + head) + "public ".length();
                contains(method.getName(), readme, "`" + source.substring(from, source.indexOf(')', from) + 1) + "`");
            }
        }
    }

    private static void tests(String readme) throws IOException {
        try (Stream<Path> files = Files.list(TESTS)) {
            List<String> names = files.map(file -> file.getFileName().toString().replace(".java", ""))
                    .collect(Collectors.toList());
            for (String name : names) {
                contains(name, readme, name.endsWith("Test") ? "\n| " + name + " | " : name);
            }
        }
    }

    private static void scripts(String readme) {
        for (String script : new String[] {"src/test/run", ".ci/run"}) {
            contains(script, readme, "\n" + script + "\n");
            Checks.due(script + " can be run", Files.isExecutable(Path.of(script)) ? 1 : 0, 1);
        }
    }
}
