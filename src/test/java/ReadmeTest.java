import java.io.IOException;
import java.lang.reflect.Method;
import java.lang.reflect.Modifier;
import java.nio.charset.StandardCharsets;
import java.nio.file.Files;
import java.nio.file.Path;
import java.util.ArrayList;
import java.util.List;
import java.util.regex.Matcher;
import java.util.regex.Pattern;
import java.util.stream.Stream;

/**
 * README.md tells the truth: the calls of its Java parts answer what the remarks beside them say, every
 * method of the class has a line there, and every test of the project is named.
 */
public final class ReadmeTest {
    private static final Check CHECK = new Check("ReadmeTest");
    private static final Path README = Path.of("README.md");
    private static final Pattern JAVA_PART = Pattern.compile("(?s)```java\n(.*?)```");
    /** A call, and the answer as the first word of the remark behind it. */
    private static final Pattern CALL = Pattern.compile("array\\.(\\w+)\\(([^)]*)\\);\\s*// (-?\\w+).*");

    public static void main(String[] args) throws IOException {
        String text = Files.readString(README, StandardCharsets.UTF_8);
        runs(text);
        methods(text);
        tests(text);
        CHECK.end();
    }

    /** The parts go on with one object until one of them makes another. */
    private static void runs(String text) {
        Player player = new Player(CHECK);
        List<String> calls = new ArrayList<>();
        Matcher part = JAVA_PART.matcher(text);
        int played = 0;
        while (part.find()) {
            for (String line : part.group(1).split("\n")) {
                if (line.contains("new SensorArray()")) {
                    played += play(player, calls);
                } else if (!line.isBlank()) {
                    calls.add(callOf(line));
                }
            }
        }
        played += play(player, calls);
        CHECK.holds("README.md has runs of calls", played > 0);
    }

    private static int play(Player player, List<String> calls) {
        if (calls.isEmpty()) {
            return 0;
        }
        player.play("README.md", String.join("; ", calls));
        calls.clear();
        return 1;
    }

    private static String callOf(String line) {
        Matcher call = CALL.matcher(line);
        if (!call.matches()) {
            throw new IllegalStateException("README.md: not a call with its answer: " + line);
        }
        return call.group(1) + " " + call.group(2).replace(",", "") + " = " + call.group(3);
    }

    private static void methods(String text) {
        for (Method method : SensorArray.class.getDeclaredMethods()) {
            if (Modifier.isPublic(method.getModifiers())) {
                boolean told = Pattern.compile("(?m)^\\| `" + method.getName() + "\\(").matcher(text).find();
                CHECK.holds("README.md has a line for " + method.getName(), told);
            }
        }
    }

    private static void tests(String text) throws IOException {
        try (Stream<Path> files = Files.list(Path.of("src/test/java"))) {
            for (Path file : files.sorted().toList()) {
                String name = file.getFileName().toString().replace(".java", "");
                if (name.endsWith("Test")) {
                    CHECK.holds("README.md names " + name, text.contains("| `" + name + "` |"));
                }
            }
        }
    }
}
