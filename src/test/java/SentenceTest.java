import java.io.IOException;
import java.lang.reflect.Method;
import java.nio.charset.StandardCharsets;
import java.nio.file.Files;
import java.nio.file.Path;
import java.util.ArrayList;
import java.util.List;
import java.util.Map;
import java.util.TreeMap;

/**
 * Each sentence of the document's section "Description" and of its promises has a boundary test, but those that
 * name no boundary case; and the words that a boundary test is for stand in the document.
 */
public final class SentenceTest {
    private static final Path DOCUMENT = Path.of("../shared/DOC.md");
    private static final Class<?>[] TESTS = {BoundaryFloorTest.class, BoundaryPlanTest.class, BoundaryTaskTest.class,
        BoundaryTimeTest.class, BoundaryTextTest.class};
    /** Headings, and sentences that only tell what the rows below them tell in full. */
    private static final String[] PLAIN = {"Floor.", "Robots.", "Time and plans.", "Collisions.", "Routes.",
        "Planning.",
        "Tasks.", "Refusing.", "Ticks.", "Making way.", "Text.", "Exceptions.",
        "The constructor and the methods follow, a promise each: the signature, then what it does.",
        "Sets what a cell is.", "Returns what a cell is.", "Adds a lift.", "Returns a number of a robot.",
        "Returns a count.", "Returns the count.", "Returns the number.", "Plans a robot to a cell.",
        "Returns the cost.", "Returns an action of the rest of the plan of a robot.", "Returns where a robot will be.",
        "Returns the robot that will be at a cell.", "Returns a number of a task.",
        "Returns a number of the copy of a robot in a place of a shelf.", "Returns the error position."};

    private static int wrong = 0;

    private static void tell(String fault) {
        wrong++;
        System.out.println(fault);
    }

    /** The sentences and rows of each promise; those of the description have the number 0. */
    private static Map<Integer, List<String>> sentences() throws IOException {
        Map<Integer, List<String>> all = new TreeMap<>();
        String text = Files.readString(DOCUMENT, StandardCharsets.UTF_8);
        for (String section : text.split("(?m)^## ")) {
            String head = section.lines().findFirst().orElse("");
            String body = section.substring(Math.min(section.length(), head.length() + 1));
            if (head.startsWith("Promise ")) {
                all.put(Integer.parseInt(head.replaceAll("Promise (\\d+):.*", "$1")), unitsOf(body));
            } else if (head.equals("Description")) {
                all.put(0, unitsOf(body));
            }
        }
        return all;
    }

    private static List<String> unitsOf(String body) {
        List<String> units = new ArrayList<>();
        for (String paragraph : body.split("\n\\s*\n")) {
            String kept = paragraph.strip().replaceAll("(?m)^----.*$", "").strip();
            boolean isRows = kept.startsWith("- ");
            for (String unit : kept.split(isRows ? "\n(?=- )" : "(?<=\\.)\\s+(?=[A-Z])")) {
                String line = unit.replaceAll("\\s+", " ").strip();
                if (!line.isEmpty() && !line.startsWith("`")) {
                    units.add(line);
                }
            }
        }
        return units;
    }

    private static boolean isPlain(String sentence) {
        for (String plain : PLAIN) {
            if (plain.equals(sentence)) {
                return true;
            }
        }
        return false;
    }

    public static void main(String[] args) throws Exception {
        if (!Files.exists(DOCUMENT)) {
            System.out.println("there is no document to look at");
            return;
        }
        Map<Integer, List<String>> open = sentences();
        Map<Integer, List<String>> all = sentences();
        int tests = 0;
        for (Class<?> c : TESTS) {
            for (Method m : c.getDeclaredMethods()) {
                Sentence sentence = m.getAnnotation(Sentence.class);
                if (m.getName().matches("p\\d\\d.*")) {
                    tests++;
                    int promise = Integer.parseInt(m.getName().substring(1, 3));
                    for (String words : sentence == null ? new String[] {""} : sentence.value()) {
                        List<String> there = all.getOrDefault(promise, new ArrayList<>());
                        if (words.isEmpty() || there.stream().noneMatch(s -> s.contains(words))) {
                            tell(c.getName() + "." + m.getName() + ": promise " + promise + " does not say: " + words);
                        }
                        open.getOrDefault(promise, new ArrayList<>()).removeIf(s -> s.contains(words));
                    }
                }
            }
        }
        open.forEach((promise, left) -> left.stream().filter(s -> !isPlain(s)).forEach(
                s -> tell("promise " + promise + " has no boundary test for: " + s)));
        System.out.println(tests + " tests, " + (wrong == 0 ? "each sentence has one" : wrong + " faults"));
        if (wrong != 0 || tests == 0) {
            System.exit(1);
        }
    }
}
