import java.io.IOException;
import java.lang.reflect.Constructor;
import java.lang.reflect.Field;
import java.lang.reflect.Method;
import java.lang.reflect.Modifier;
import java.nio.file.Files;
import java.nio.file.Path;
import java.util.Set;
import java.util.TreeSet;
import java.util.regex.Matcher;
import java.util.regex.Pattern;

/** The face of the document, and those rules of LANGUAGE.md that can be looked up. */
public final class LanguageTest {
    private static final Set<String> FACE = new TreeSet<>(Set.of("int puppeteer 2", "int figure 2", "boolean rules 2", "int feed 5",
        "int end 1", "int text 0"));

    private LanguageTest() { }

    public static void main(String[] args) throws IOException {
        FACE.addAll(Set.of("int fault 1", "boolean by 1", "int played 1", "int clear 0", "int at 2", "boolean hold 3", "int held 2",
            "int judge 1", "int swaps 0", "int longest 1"));
        FACE.addAll(Set.of("int fewest 1", "int found 3", "int take 1", "int least 0", "int strike 2", "int ill 2", "int bound 1",
            "int sees 2", "int image 0", "int back 0"));
        FACE.add("int about 1");
        face();
        source(Files.readString(Path.of("src/main/java/SixHands.java")));
        Due.close();
    }

    private static void face() {
        Set<String> found = new TreeSet<>();
        for (Method method : SixHands.class.getDeclaredMethods()) {
            String shape = method.getReturnType() + " " + method.getName() + " " + method.getParameterCount();
            if (Modifier.isPublic(method.getModifiers())) {
                found.add(shape);
            } else {
                Due.yes(shape + " is private", Modifier.isPrivate(method.getModifiers()) || method.isSynthetic());
            }
        }
        Due.yes("the face is " + found, found.equals(FACE));
        for (Field field : SixHands.class.getDeclaredFields()) {
            boolean isNone = field.getName().equals("NONE");
            Due.yes(field + " is as hidden as it should be", isNone ? Modifier.isPublic(field.getModifiers())
                : Modifier.isPrivate(field.getModifiers()));
            Due.yes(field + " is final", Modifier.isFinal(field.getModifiers()));
        }
        for (Constructor<?> constructor : SixHands.class.getDeclaredConstructors()) {
            Due.yes(constructor + " is public", Modifier.isPublic(constructor.getModifiers()));
        }
        Due.yes("the class is final", Modifier.isFinal(SixHands.class.getModifiers()));
        Due.yes("few classes", SixHands.class.getDeclaredClasses().length <= 11);
        for (Class<?> inside : SixHands.class.getDeclaredClasses()) {
            inside(inside);
        }
    }

    private static void inside(Class<?> inside) {
        Due.yes(inside + " is static", Modifier.isStatic(inside.getModifiers()));
        int fields = 0;
        for (Field field : inside.getDeclaredFields()) {
            boolean isStatic = Modifier.isStatic(field.getModifiers());
            Due.yes(field + " is a constant or no static", !isStatic || Modifier.isFinal(field.getModifiers()));
            fields += isStatic ? 0 : 1;
        }
        Due.yes(inside + " has few fields", fields <= 20);
        for (Method method : inside.getDeclaredMethods()) {
            Due.yes(method + " bears a name of its own", FACE.stream().noneMatch(f -> f.contains(" " + method.getName() + " ")));
            Due.yes(method + " has few parameters", method.getParameterCount() <= 7);
        }
    }

    private static void source(String source) {
        String code = source.replaceAll("(?s)/\\*.*?\\*/", "").replaceAll("//[^\n]*", "").replaceAll("\"[^\"\n]*\"", "\"\"");
        String[] words = {"throw", "throws", "try", "catch", "finally", "synchronized", "assert", "Exact", "System.out", "Random",
            "->", "::", "package", "protected", "new Thread", "hashCode", "double", "float"};
        for (String word : words) {
            String pattern = word.matches("[a-z]+") ? "\\b" + word + "\\b" : Pattern.quote(word);
            Due.no("has " + word, Pattern.compile(pattern).matcher(code).find());
        }
        Matcher imports = Pattern.compile("import ([^;]*);").matcher(code);
        while (imports.find()) {
            Due.yes("import " + imports.group(1), imports.group(1).equals("java.util.Arrays"));
        }
        Due.yes("signs 1 to 127 alone", source.chars().allMatch(c -> c > 0 && c < 128));
        methodLengths(source);
    }

    private static void methodLengths(String source) {
        int start = -1;
        String[] lines = source.split("\n");
        for (int i = 0; i < lines.length; i++) {
            if (lines[i].matches(" {4,8}[a-zA-Z].*\\) \\{")) {
                start = i;
            } else if (lines[i].matches(" {4,8}\\}") && start >= 0) {
                Due.yes("a short method: " + lines[start].trim(), i - start <= 60);
                start = -1;
            }
        }
    }
}
