import java.lang.reflect.Method;
import java.lang.reflect.Modifier;
import java.nio.charset.StandardCharsets;
import java.nio.file.Files;
import java.nio.file.Path;
import java.util.ArrayList;
import java.util.List;
import java.util.regex.Matcher;
import java.util.regex.Pattern;

/**
 * What README.md says is so: its example is the file that it names and answers what stands beside it, its commands
 * run as they stand, the files that it names are there, and it names each call of the face.
 */
public final class ReadmeTest {
    private static final Path README = Path.of("README.md");
    private static final Path EXAMPLE = Path.of("example/Example.java");
    /** What runs this test can't be run by it. */
    private static final String ALL_TESTS = ".ci/run";
    private static final String RUN_EXAMPLE = "java -cp build/example Example";
    private static final Pattern BESIDE = Pattern.compile("println\\(.*\\);\\s+// ([^:]+):");

    private static int wrong = 0;

    private static void demand(boolean isRight, String fault) {
        if (!isRight) {
            wrong++;
            System.out.println(fault);
        }
    }

    private static List<String> blocks(String text, String kind) {
        List<String> blocks = new ArrayList<>();
        Matcher found = Pattern.compile("(?ms)^ *```" + kind + "\n(.*?)^ *```$").matcher(text);
        while (found.find()) {
            blocks.add(found.group(1));
        }
        return blocks;
    }

    private static void example(String text) throws Exception {
        List<String> blocks = blocks(text, "java");
        demand(blocks.size() == 1 && blocks.get(0).equals(Files.readString(EXAMPLE, StandardCharsets.UTF_8)),
                "the example is not " + EXAMPLE);
    }

    /** What stands beside each println of the example. */
    private static String answersBeside(String text) {
        StringBuilder answers = new StringBuilder();
        for (String line : String.join("", blocks(text, "java")).split("\n")) {
            Matcher beside = BESIDE.matcher(line);
            boolean isThere = beside.find();
            demand(isThere || !line.contains("println"), "no answer stands beside " + line);
            answers.append(isThere ? beside.group(1) + "\n" : "");
        }
        return answers.toString();
    }

    private static void commands(String text) throws Exception {
        List<String> lines = new ArrayList<>();
        for (String block : blocks(text, "sh")) {
            block.lines().map(String::strip).forEach(lines::add);
        }
        demand(lines.contains(ALL_TESTS) && Files.isExecutable(Path.of(ALL_TESTS)), "no " + ALL_TESTS);
        demand(lines.contains(RUN_EXAMPLE), "the example is not run");
        lines.remove(ALL_TESTS);
        for (String line : lines) {
            Process process = new ProcessBuilder("sh", "-c", line).redirectErrorStream(true).start();
            String said = new String(process.getInputStream().readAllBytes(), StandardCharsets.UTF_8);
            demand(process.waitFor() == 0, line + " failed:\n" + said);
            String due = answersBeside(text);
            demand(!line.equals(RUN_EXAMPLE) || said.equals(due), "the example says\n" + said + "due is\n" + due);
        }
    }

    private static void names(String text) {
        Matcher file = Pattern.compile("`([^`\\s]+/[^`\\s]+)`").matcher(text);
        while (file.find()) {
            demand(Files.exists(Path.of(file.group(1))), "there is no " + file.group(1));
        }
        for (Method m : AisleScheduler.class.getDeclaredMethods()) {
            boolean isNamed = text.contains("`" + m.getName() + "`");
            demand(isNamed || !Modifier.isPublic(m.getModifiers()), m.getName() + " is not named");
        }
    }

    public static void main(String[] args) throws Exception {
        String text = Files.readString(README, StandardCharsets.UTF_8);
        example(text);
        commands(text);
        names(text);
        System.out.println(wrong == 0 ? "README.md says what is so" : wrong + " faults");
        if (wrong != 0) {
            System.exit(1);
        }
    }
}
