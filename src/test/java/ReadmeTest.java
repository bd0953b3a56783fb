import java.io.IOException;
import java.lang.reflect.Method;
import java.lang.reflect.Modifier;
import java.nio.charset.StandardCharsets;
import java.nio.file.Files;
import java.nio.file.Path;
import java.util.Arrays;
import java.util.HashSet;
import java.util.Set;
import java.util.regex.Matcher;
import java.util.regex.Pattern;

/** README.md's example: each of its calls answers what stands behind it, and every call of the face is shown. */
public final class ReadmeTest {
    private static final Pattern TEXT = Pattern.compile("String text = \"(.*)\";");
    private static final Pattern CALL = Pattern.compile("x\\.(\\w+)\\(([^()]*)\\);\\s+// (-?\\d+): .*");
    private static final Check CHECK = new Check("readme");

    public static void main(String[] args) throws IOException, ReflectiveOperationException {
        String readme = Files.readString(Path.of("README.md"), StandardCharsets.UTF_8);
        String[] blocks = readme.split("```");
        String example = Arrays.stream(blocks).filter(block -> block.startsWith("java\n")).findFirst().orElse("");
        CHECK.holds("there is an example", !example.isEmpty());
        Set<String> shown = new HashSet<>(Set.of("write"));
        OneTooFew x = new OneTooFew();
        for (String line : example.split("\n")) {
            Matcher text = TEXT.matcher(line);
            Matcher call = CALL.matcher(line);
            if (text.matches()) {
                // Byte by byte, as the example's own loop does it.
                for (char sign : text.group(1).toCharArray()) {
                    x.write(sign, 1);
                }
            } else if (call.matches()) {
                shown.add(call.group(1));
                CHECK.due(line, answer(x, call.group(1), call.group(2)), Integer.parseInt(call.group(3)));
            } else {
                CHECK.holds("a call with its answer: " + line, !line.startsWith("x."));
            }
        }
        for (Method method : OneTooFew.class.getDeclaredMethods()) {
            if (Modifier.isPublic(method.getModifiers())) {
                CHECK.holds(method.getName() + " is shown", shown.contains(method.getName()));
            }
        }
        everyTestIsNamed(readme);
        CHECK.end();
    }

    private static int answer(OneTooFew x, String name, String numbers) throws ReflectiveOperationException {
        Integer[] given = Arrays.stream(numbers.split(",")).map(String::trim).filter(one -> !one.isEmpty())
            .map(Integer::valueOf).toArray(Integer[]::new);
        Class<?>[] types = new Class<?>[given.length];
        Arrays.fill(types, int.class);
        return (Integer) OneTooFew.class.getMethod(name, types).invoke(x, (Object[]) given);
    }

    private static void everyTestIsNamed(String readme) throws IOException {
        try (var files = Files.list(Path.of("src/test/java"))) {
            for (Path file : files.toList()) {
                CHECK.holds(file + " is named in README.md", readme.contains(file.getFileName().toString()));
            }
        }
    }
}
