import java.io.IOException;
import java.nio.charset.StandardCharsets;
import java.nio.file.Files;
import java.nio.file.Path;
import java.util.ArrayList;
import java.util.List;
import java.util.regex.Matcher;
import java.util.regex.Pattern;
import java.util.stream.Stream;
import javax.tools.ToolProvider;

/**
 * The document leaves free what an object answers after 512 calls. So each test that asks objects must also pass
 * with a program that counts the calls of each object and breaks off at the 513th one.
 */
public final class CallsTest {
    private static final Path SOURCE = Path.of("src/main/java/AisleScheduler.java");
    private static final Path TESTS = Path.of("src/test/java");
    private static final Path COUNTING = Path.of("build/counting");
    /** The tests that ask no object, and this one. */
    private static final List<String> ASK_NONE = List.of("CallsTest", "FaceTest", "ReadmeTest", "RulesTest",
        "SentenceTest");
    private static final Pattern METHOD =
            Pattern.compile("(?m)^    public (?!final class|AisleScheduler\\(\\))[^{;]*\\{");
    private static final int METHODS = 39;
    private static final String COUNTER = "    private int callsMade;\n"
            + "    private void countCall() {\n"
            + "        callsMade++;\n"
            + "        if (callsMade > 512) {\n"
            + "            throw new Error(\"this object is used more than 512 times\");\n"
            + "        }\n"
            + "    }\n"
            + "}\n";

    private static int wrong = 0;

    private static void tell(String fault) {
        wrong++;
        System.out.println(fault);
    }

    private static void compileCounting() throws IOException {
        String source = Files.readString(SOURCE, StandardCharsets.UTF_8);
        Matcher methods = METHOD.matcher(source);
        if (methods.results().count() != METHODS) {
            tell("the methods of the face were not found");
        }
        String counting = methods.reset().replaceAll("$0 countCall();").stripTrailing();
        counting = counting.substring(0, counting.length() - 1) + COUNTER;
        Files.createDirectories(COUNTING);
        Path file = COUNTING.resolve("AisleScheduler.java");
        Files.writeString(file, counting, StandardCharsets.UTF_8);
        String[] words = {"-encoding", "UTF-8", "-d", COUNTING.toString(), file.toString()};
        if (ToolProvider.getSystemJavaCompiler().run(null, null, null, words) != 0) {
            tell("the counting program does not compile");
        }
    }

    private static List<String> tests() throws IOException {
        List<String> names = new ArrayList<>();
        try (Stream<Path> files = Files.list(TESTS)) {
            files.map(f -> f.getFileName().toString()).filter(f -> f.endsWith("Test.java")).sorted()
                    .map(f -> f.substring(0, f.length() - ".java".length())).forEach(names::add);
        }
        names.removeAll(ASK_NONE);
        return names;
    }

    private static void run(String test, String classes) throws Exception {
        String java = Path.of(System.getProperty("java.home"), "bin", "java").toString();
        Process process = new ProcessBuilder(java, "-cp", classes, test).redirectErrorStream(true).start();
        String said = new String(process.getInputStream().readAllBytes(), StandardCharsets.UTF_8);
        if (process.waitFor() != 0) {
            tell(test + " relies on calls after the 512th:\n" + said);
        }
    }

    public static void main(String[] args) throws Exception {
        compileCounting();
        List<String> tests = tests();
        String others = System.getProperty("java.class.path");
        for (String test : tests) {
            run(test, COUNTING + java.io.File.pathSeparator + others);
        }
        System.out.println(tests.size() + " tests, " + (wrong == 0 ? "none needs more calls" : wrong + " faults"));
        if (wrong != 0 || tests.isEmpty()) {
            System.exit(1);
        }
    }
}
