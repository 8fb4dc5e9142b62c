import java.io.File;
import java.io.IOException;
import java.lang.reflect.Method;
import java.nio.file.Files;
import java.nio.file.Path;
import java.util.ArrayList;
import java.util.List;
import java.util.regex.Matcher;
import java.util.regex.Pattern;

/** README.md holds: its example answers as it says, and it tells every call and every test. */
public final class ReadmeTest extends Checks {
    private static final Pattern CALL = Pattern.compile("forge\\.(\\w+)\\((\\d*)(?:, (\\d+))?\\); +// (\\d+)?.*");

    private static List<String> lines = new ArrayList<>();

    public static void main(String[] args) throws IOException {
        lines = Files.readAllLines(Path.of("README.md"));
        says("The calls, and behind each one its answer", ReadmeTest::example);
        says("What they answer", ReadmeTest::everyCall);
        says("How to run the tests", ReadmeTest::everyTest);
        endTests();
    }

    private static void example() {
        List<String> texts = blocks("text");
        List<String> programs = blocks("java");
        due("texts", texts.size(), 4);
        due("programs", programs.size(), 2);
        Forge forge = new Forge();
        int answers = 0;
        for (String line : programs.get(1).split("\n")) {
            Matcher call = CALL.matcher(line);
            if (line.startsWith("put(")) {
                feed(forge, texts.get(line.equals("put(forge, TABLES);") ? 0 : 1));
            } else if (call.matches()) {
                answers += answersAsTold(forge, call) ? 1 : 0;
            } else {
                written("a line that is no call", line, "CellForge forge = new CellForge();");
            }
        }
        due("answers", answers, 16);
        written("the cells", coverText(forge), texts.get(2));
        written("the instances", mappedText(forge), texts.get(3));
    }

    /** False if no answer is told. */
    private static boolean answersAsTold(Forge forge, Matcher call) {
        int got = forge.call(call.group(1), number(call.group(2)), number(call.group(3)));
        if (call.group(4) != null) {
            due(call.group(), got, number(call.group(4)));
        }
        return call.group(4) != null;
    }

    private static int number(String digits) {
        return digits == null || digits.isEmpty() ? 0 : Integer.parseInt(digits);
    }

    private static List<String> blocks(String kind) {
        List<String> blocks = new ArrayList<>();
        StringBuilder block = null;
        for (String line : lines) {
            if (line.equals("```" + kind)) {
                block = new StringBuilder();
            } else if (line.equals("```") && block != null) {
                blocks.add(block.toString());
                block = null;
            } else if (block != null) {
                block.append(line).append('\n');
            }
        }
        return blocks;
    }

    private static void everyCall() {
        for (Method method : CellForge.class.getMethods()) {
            if (method.getDeclaringClass() == CellForge.class) {
                isTold("| ", "`" + method.getName() + "(");
            }
        }
    }

    private static void everyTest() {
        String[] files = new File("src/test/java").list();
        due("tests are found", files == null ? 0 : 1, 1);
        for (String file : files == null ? new String[0] : files) {
            if (file.endsWith("Test.java")) {
                isTold("- ", "`" + file.replace(".java", "") + "`");
            }
        }
    }

    private static void isTold(String start, String words) {
        boolean isTold = false;
        for (String line : lines) {
            isTold = isTold || line.startsWith(start) && line.contains(words);
        }
        due(words + " is told", isTold ? 1 : 0, 1);
    }
}
