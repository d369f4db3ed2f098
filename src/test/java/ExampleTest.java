import java.io.IOException;
import java.lang.reflect.Method;
import java.nio.charset.StandardCharsets;
import java.nio.file.Files;
import java.nio.file.Path;
import java.util.Arrays;
import java.util.regex.Matcher;
import java.util.regex.Pattern;

/** Runs the lines that README.md has under Use: each one answers what stands behind it. */
public final class ExampleTest {
    private static final Check CHECK = new Check("ExampleTest");
    private static final Path README = Path.of("README.md");
    private static final Pattern TEXT = Pattern.compile(" {4}feedText\\(hole, \"(.*)\"\\);");
    private static final Pattern CALL = Pattern.compile(" {4}hole\\.(\\w+)\\(([^)]*)\\); +// (true|false|-?\\d+)\\b.*");

    public static void main(String[] args) throws IOException, ReflectiveOperationException {
        JigsawHole hole = new JigsawHole();
        int calls = 0;
        for (String line : Files.readAllLines(README, StandardCharsets.UTF_8)) {
            Matcher text = TEXT.matcher(line);
            Matcher call = CALL.matcher(line);
            if (text.matches()) {
                feedText(hole, text.group(1));
            } else if (call.matches()) {
                calls++;
                CHECK.due(line.trim(), call.group(3), answer(hole, call.group(1), call.group(2)));
            }
        }
        CHECK.due("README.md has calls", true, calls > 20);
        CHECK.end();
    }

    /** As README.md has it. */
    static void feedText(JigsawHole hole, String text) {
        int[] four = new int[5];
        for (int i = 0; i < text.length(); i += 20) {
            for (int j = 0; j < 20; j++) {
                four[j / 4] = four[j / 4] << 8 | (i + j < text.length() ? text.charAt(i + j) : ' ');
            }
            hole.feed(four[0], four[1], four[2], four[3], four[4]);
        }
        hole.back((20 - text.length() % 20) % 20);
    }

    private static String answer(JigsawHole hole, String name, String numbers) throws ReflectiveOperationException {
        Object[] given = Arrays.stream(numbers.split(", ")).filter(one -> !one.isEmpty()).map(Integer::valueOf).toArray();
        Class<?>[] types = new Class<?>[given.length];
        Arrays.fill(types, int.class);
        Method method = JigsawHole.class.getMethod(name, types);
        return String.valueOf(method.invoke(hole, given));
    }
}
