import java.io.DataInputStream;
import java.io.IOException;
import java.io.InputStream;
import java.lang.reflect.Constructor;
import java.lang.reflect.Field;
import java.lang.reflect.Method;
import java.lang.reflect.Modifier;
import java.nio.file.Files;
import java.nio.file.Path;
import java.util.Set;
import java.util.TreeSet;
import java.util.regex.Matcher;
import java.util.regex.Pattern;
import java.util.stream.Collectors;
import java.util.stream.Stream;

/** The face of the document, and those rules of LANGUAGE.md that can be looked up. */
public final class LanguageTest {
    /** What a class file may name of the library (rule 4). */
    private static final Set<String> LIBRARY = Set.of("java/lang/Object.<init>", "java/lang/String.charAt", "java/lang/Math.max",
        "java/lang/Math.min", "java/lang/Math.abs", "java/lang/Integer.bitCount", "java/lang/System.arraycopy", "java/util/Arrays.fill");

    private LanguageTest() { }

    public static void main(String[] args) throws IOException {
        face();
        library(SixHands.class);
        for (Class<?> inside : SixHands.class.getDeclaredClasses()) {
            library(inside);
        }
        source(Files.readString(Path.of("src/main/java/SixHands.java")));
        Due.close();
    }

    /** The members that the document's face shows, each as its shape. */
    private static Set<String> promisedFace() throws IOException {
        String document = Files.readString(Path.of("../shared/DOC.md"));
        int start = document.indexOf("public final class SixHands {");
        String block = document.substring(start, document.indexOf("```", start));
        Set<String> face = new TreeSet<>();
        Matcher member = Pattern.compile("public (?:static final )?([^;{]*);").matcher(block);
        while (member.find()) {
            face.add(member.group(1).replaceAll("\\b(int|boolean) \\w+(?=[,)])", "$1").replace(" ", ""));
        }
        return face;
    }

    private static String parameters(Class<?>[] types) {
        return Stream.of(types).map(Class::getName).collect(Collectors.joining(",", "(", ")"));
    }

    private static void face() throws IOException {
        Set<String> found = new TreeSet<>();
        Set<String> publicNames = new TreeSet<>();
        for (Method method : SixHands.class.getDeclaredMethods()) {
            if (Modifier.isPublic(method.getModifiers())) {
                found.add(method.getReturnType() + method.getName() + parameters(method.getParameterTypes()));
                publicNames.add(method.getName());
                Due.no(method + " is static", Modifier.isStatic(method.getModifiers()));
            }
        }
        for (Method method : SixHands.class.getDeclaredMethods()) {
            if (!Modifier.isPublic(method.getModifiers())) {
                Due.yes(method + " is private", Modifier.isPrivate(method.getModifiers()));
                Due.no(method + " bears a public one's name", publicNames.contains(method.getName()));
            }
        }
        for (Field field : SixHands.class.getDeclaredFields()) {
            boolean isNone = field.getName().equals("NONE");
            if (isNone) {
                found.add(field.getType() + field.getName() + "=" + SixHands.NONE);
            }
            Due.yes(field + " is as hidden as it should be", isNone ? Modifier.isPublic(field.getModifiers())
                : Modifier.isPrivate(field.getModifiers()));
            Due.yes(field + " is final", Modifier.isFinal(field.getModifiers()));
        }
        for (Constructor<?> constructor : SixHands.class.getDeclaredConstructors()) {
            found.add(constructor.getName() + parameters(constructor.getParameterTypes()));
            Due.yes(constructor + " is public", Modifier.isPublic(constructor.getModifiers()));
        }
        Due.is("members of the document's face", 29, promisedFace().size());
        Due.same("the face", promisedFace().toString(), found.toString());
        Due.yes("the class is public and final", Modifier.isPublic(SixHands.class.getModifiers())
            && Modifier.isFinal(SixHands.class.getModifiers()));
        Due.yes("few classes", SixHands.class.getDeclaredClasses().length <= 11);
        for (Class<?> inside : SixHands.class.getDeclaredClasses()) {
            inside(inside, publicNames);
        }
    }

    private static void inside(Class<?> inside, Set<String> publicNames) {
        Due.yes(inside + " is static", Modifier.isStatic(inside.getModifiers()));
        int fields = 0;
        for (Field field : inside.getDeclaredFields()) {
            boolean isStatic = Modifier.isStatic(field.getModifiers());
            Due.yes(field + " is a constant or no static", !isStatic || Modifier.isFinal(field.getModifiers()));
            fields += isStatic ? 0 : 1;
        }
        Due.yes(inside + " has few fields", fields <= 20);
        for (Method method : inside.getDeclaredMethods()) {
            Due.no(method + " bears a public one's name", publicNames.contains(method.getName()));
            Due.yes(method + " has few parameters", method.getParameterCount() <= 7);
        }
    }

    /** Looks through the names that a class file has of other classes' methods and fields. */
    private static void library(Class<?> owner) throws IOException {
        try (InputStream stream = owner.getResourceAsStream(owner.getName() + ".class");
                DataInputStream file = new DataInputStream(stream)) {
            file.skipNBytes(8);
            int size = file.readUnsignedShort();
            String[] words = new String[size];
            int[] kind = new int[size];
            int[] first = new int[size];
            int[] second = new int[size];
            for (int i = 1; i < size; i++) {
                kind[i] = file.readUnsignedByte();
                switch (kind[i]) {
                    case 1 -> words[i] = file.readUTF();
                    case 3, 4 -> file.skipNBytes(4);
                    case 5, 6 -> { file.skipNBytes(8); i++; }
                    case 7, 8, 16, 19, 20 -> first[i] = file.readUnsignedShort();
                    case 15 -> file.skipNBytes(3);
                    default -> { first[i] = file.readUnsignedShort(); second[i] = file.readUnsignedShort(); }
                }
            }
            for (int i = 1; i < size; i++) {
                boolean isMember = kind[i] >= 9 && kind[i] <= 11;
                String named = isMember ? words[first[first[i]]] + "." + words[first[second[i]]] : "";
                Due.no(owner + " has a call made at run time", kind[i] == 17 || kind[i] == 18);
                Due.yes(owner + " names " + named, !isMember || named.startsWith("SixHands") || LIBRARY.contains(named));
            }
        }
    }

    private static void source(String source) {
        String code = source.replaceAll("(?s)/\\*.*?\\*/", "").replaceAll("//[^\n]*", "").replaceAll("\"[^\"\n]*\"", "\"\"");
        String[] words = {"throw", "throws", "try", "catch", "finally", "synchronized", "assert", "Exact", "System.out", "Random",
            "->", "::", "package", "protected", "new Thread", "hashCode", "double", "float"};
        for (String word : words) {
            String pattern = word.matches("[a-z]+") ? "\\b" + word + "\\b" : Pattern.quote(word);
            Due.no("has " + word, Pattern.compile(pattern).matcher(code).find());
        }
        Matcher imports = Pattern.compile("import ([^;]*);").matcher(code);
        while (imports.find()) {
            Due.yes("import " + imports.group(1), imports.group(1).equals("java.util.Arrays"));
        }
        Due.yes("signs 1 to 127 alone", source.chars().allMatch(c -> c > 0 && c < 128));
        methodLengths(source);
    }

    private static void methodLengths(String source) {
        int start = -1;
        String[] lines = source.split("\n");
        for (int i = 0; i < lines.length; i++) {
            if (lines[i].matches(" {4,8}[a-zA-Z].*\\) \\{")) {
                start = i;
            } else if (lines[i].matches(" {4,8}\\}") && start >= 0) {
                Due.yes("a short method: " + lines[start].trim(), i - start <= 60);
                start = -1;
            }
        }
    }
}
