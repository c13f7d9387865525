import java.io.IOException;
import java.lang.reflect.Method;
import java.lang.reflect.Modifier;
import java.nio.file.Files;
import java.nio.file.Path;
import java.util.List;
import java.util.regex.Matcher;
import java.util.regex.Pattern;
import java.util.stream.Stream;

/** README.md: its example does what it says, and it names every call, every refusal, every manner and every test. */
public final class ReadmeTest {
    private static final Check CHECK = new Check();

    public static void main(String[] args) throws IOException {
        Path root = Path.of(args.length > 0 ? args[0] : ".");
        String readme = Files.readString(root.resolve("README.md"));
        example();
        exampleIsThatOfReadme(readme, Files.readString(root.resolve("src/test/java/ReadmeTest.java")));
        namesTheFace(readme);
        namesTheTests(readme, root.resolve("src/test/java"));
        CHECK.end();
    }

    /** The lines of the example, as they stand in README.md, but for its comments. */
    private static void example() {
        SpurtClock clock = new SpurtClock();
        for (char sign : "share".toCharArray()) clock.key(sign);
        clock.manner(12);
        clock.margin(10);
        int spurt = clock.arrive(3, 3, 2, 100);
        int time = clock.ofSpurt(spurt, 2) - 10000;
        int played = clock.ofFrame(3, 3);
        StringBuilder text = new StringBuilder();
        int length = clock.text(spurt, -1);
        for (int i = 0; i < length; i++) text.append((char) clock.text(spurt, i));
        CHECK.due("time", time, 50);
        CHECK.due("played", played, 110);
        CHECK.dueText("text", text.toString(), "S3 share P50 +");
        CHECK.due("what the margin was", clock.margin(0), 10);
    }

    private static void exampleIsThatOfReadme(String readme, String source) {
        Matcher block = Pattern.compile("(?s)```java\n(.*?)```").matcher(readme);
        boolean found = block.find();
        CHECK.holds("there is an example", found);
        int from = source.indexOf("private static void example()");
        for (String line : found ? block.group(1).split("\n") : new String[0]) {
            String code = line.replaceAll("\\s*//.*", "").strip();
            int at = source.indexOf("        " + code + "\n", from);
            CHECK.holds("the example is tried, in its order: " + code, at >= 0);
            from = Math.max(from, at);
        }
    }

    private static void namesTheFace(String readme) {
        for (Method m : SpurtClock.class.getDeclaredMethods()) {
            if (Modifier.isPublic(m.getModifiers())) {
                String call = "`" + m.getName() + "\\((\\w+(, \\w+){" + (m.getParameterCount() - 1) + "})\\)`";
                String bare = "`" + m.getName() + "\\(\\)`";
                Pattern wanted = Pattern.compile(m.getParameterCount() == 0 ? bare : call);
                CHECK.holds("README.md tells " + m.getName(), wanted.matcher(readme).find());
            }
        }
        for (String name : List.of("UNKNOWN", "OUTSIDE", "STATE", "FULL", "LOST", "NONE", "fixed", "share", "spike", "drift",
                "mean")) {
            CHECK.holds("README.md tells " + name, readme.contains("`" + name + "`"));
        }
    }

    private static void namesTheTests(String readme, Path tests) throws IOException {
        CHECK.holds("README.md says how to run them", readme.contains("`.ci/run`"));
        try (Stream<Path> files = Files.list(tests)) {
            for (Path file : files.sorted().toList()) {
                String name = file.getFileName().toString().replace(".java", "");
                CHECK.holds("README.md names " + name, readme.contains("`" + name + "`"));
            }
        }
    }
}
