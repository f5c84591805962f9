import java.io.IOException;
import java.lang.reflect.Method;
import java.lang.reflect.Modifier;
import java.nio.file.Files;
import java.nio.file.Path;
import java.util.Arrays;
import java.util.regex.Matcher;
import java.util.regex.Pattern;
import java.util.stream.Stream;

/** README.md tells the truth: its example answers what stands behind each call, and it names all that there is. */
public final class ReadmeTest {
    private static final Pattern CALL = Pattern.compile("^x\\.(\\w+)\\(([^)]*)\\);\\s*// (NONE|true|false|-?\\d+)", Pattern.MULTILINE);
    private static final Pattern MADE = Pattern.compile("x = new SixHands\\((\\d+)\\);");

    private ReadmeTest() { }

    public static void main(String[] args) throws IOException, ReflectiveOperationException {
        String readme = Files.readString(Path.of("README.md"));
        example(readme);
        namesAll(readme);
        Due.close();
    }

    private static void example(String readme) throws ReflectiveOperationException {
        Matcher made = MADE.matcher(readme);
        Due.yes("the example makes an object", made.find());
        SixHands x = new SixHands(Integer.parseInt(made.group(1)));
        Matcher call = CALL.matcher(readme);
        int calls = 0;
        while (call.find()) {
            Due.is(call.group(), answer(call.group(3)), ask(x, call.group(1), call.group(2)));
            calls++;
        }
        Due.is("calls of the example with an answer", readme.lines().filter(line -> line.startsWith("x.")).count(), calls);
        Due.yes("the example has calls", calls > 0);
    }

    private static long ask(SixHands x, String name, String list) throws ReflectiveOperationException {
        Object[] numbers = Stream.of(list.split(",")).map(String::trim).filter(word -> !word.isEmpty())
            .map(word -> (int) (long) Long.decode(word)).toArray();
        Class<?>[] types = new Class<?>[numbers.length];
        Arrays.fill(types, int.class);
        Object answer = SixHands.class.getMethod(name, types).invoke(x, numbers);
        return answer instanceof Integer number ? number : Boolean.TRUE.equals(answer) ? 1 : 0;
    }

    private static long answer(String word) {
        return switch (word) {
            case "NONE" -> SixHands.NONE;
            case "true" -> 1;
            case "false" -> 0;
            default -> Long.parseLong(word);
        };
    }

    private static void namesAll(String readme) throws IOException {
        for (Method method : SixHands.class.getDeclaredMethods()) {
            if (Modifier.isPublic(method.getModifiers())) {
                isNamed(readme, method.getName());
            }
        }
        for (Class<?> inside : SixHands.class.getDeclaredClasses()) {
            isNamed(readme, inside.getSimpleName());
        }
        try (Stream<Path> files = Files.list(Path.of("src/test/java"))) {
            files.map(file -> file.getFileName().toString()).filter(name -> name.endsWith("Test.java"))
                .forEach(name -> isNamed(readme, name.replace(".java", "")));
        }
    }

    private static void isNamed(String readme, String name) {
        Due.yes("README.md names " + name, readme.contains("`" + name + "`"));
    }
}
