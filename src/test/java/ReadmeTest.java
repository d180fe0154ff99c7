import java.io.IOException;
import java.lang.reflect.Method;
import java.lang.reflect.Modifier;
import java.nio.file.Files;
import java.nio.file.Path;
import java.util.ArrayList;
import java.util.List;
import java.util.regex.Matcher;
import java.util.regex.Pattern;
import java.util.stream.Stream;

/** README.md says how to use the class and how to run its tests: what it says is so, and nothing is left out. */
public final class ReadmeTest {
    private static final Path README = Path.of("README.md");
    private static final Path TESTS = Path.of("src/test/java");

    private ReadmeTest() {
    }

    public static void main(String[] args) throws IOException {
        String text = Files.readString(README);
        example(text);
        calls(text);
        tests(text);
        Check.end();
    }

    /** The lines of the example that tell an answer, and what they tell. */
    private static List<String> told(String text) {
        List<String> rows = new ArrayList<>();
        Matcher m = Pattern.compile("(?m)^x\\.(.+?); +// (\\w+)").matcher(text);
        while (m.find()) {
            rows.add(m.group(1) + " " + m.group(2));
        }
        return rows;
    }

    private static void example(String text) {
        BlockWorkshop x = Build.with(Build.piece(0, 1), Build.piece(0, 1));
        Build.aim(x, 1, 0, 1, 4, 5);
        List<String> answers = new ArrayList<>();
        answers.add("shapes(0) " + x.shapes(0));
        answers.add("places(0) " + x.places(0));
        answers.add("pack(1000) " + x.pack(1000));
        answers.add("tries() " + x.tries());
        answers.add("assemble(0, 1000) " + x.assemble(0, 1000));
        answers.add("cells(0) " + x.cells(0));
        answers.add("plan(3, 300) " + x.plan(3, 300));
        answers.add("move(0) " + x.move(0));
        answers.add("states() " + x.states());
        Check.same("README.md's example", answers.toString(), told(text).toString());
    }

    private static void calls(String text) {
        for (Method m : BlockWorkshop.class.getDeclaredMethods()) {
            if (Modifier.isPublic(m.getModifiers())) {
                mentions(text, "| `" + m.getName() + "(");
            }
        }
    }

    private static void tests(String text) throws IOException {
        mentions(text, ".ci/run");
        try (Stream<Path> files = Files.list(TESTS)) {
            for (Path file : files.toList()) {
                String name = file.getFileName().toString().replace(".java", "");
                if (name.endsWith("Test")) {
                    mentions(text, "`" + name + "`");
                }
            }
        }
    }

    private static void mentions(String text, String words) {
        Check.same("README.md has " + words, "true", String.valueOf(text.contains(words)));
    }
}
