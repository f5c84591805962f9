import java.io.IOException;
import java.nio.file.Files;
import java.nio.file.Path;
import java.util.ArrayList;
import java.util.List;
import java.util.regex.Matcher;
import java.util.regex.Pattern;
import java.util.stream.Stream;

/**
 * Which words of each promise no test of boundary cases quotes (by Due.says), and which quotes aren't words of theirs.
 * To be run by hand, from the project's directory, when the document or these tests have changed.
 */
public final class Sentences {
    private static final Pattern SAYS = Pattern.compile("Due\\.says\\((\\d+), ((?:\"[^\"]*\"(?:\\s*\\+\\s*)?)+)\\);");

    private record Quote(int promise, String words) { }

    private Sentences() { }

    public static void main(String[] args) throws IOException {
        String document = Files.readString(Path.of("../shared/DOC.md")).replaceAll("\\s+", " ");
        String[] promises = document.substring(document.indexOf("An object is used"), document.indexOf("## Not promised")).split("## Promise ");
        List<Quote> quotes = quotes();
        for (int promise = 0; promise < promises.length; promise++) {
            String left = promises[promise];
            for (Quote quote : quotes) {
                if (quote.promise == promise && !promises[promise].contains(quote.words)) {
                    System.out.println("promise " + promise + " doesn't say: " + quote.words);
                }
                left = quote.promise == promise ? left.replace(quote.words, " .. ") : left;
            }
            System.out.println("promise " + promise + ", not quoted: " + left);
        }
    }

    /** The longest first, since a shorter one may be a part of it. */
    private static List<Quote> quotes() throws IOException {
        List<Quote> quotes = new ArrayList<>();
        try (Stream<Path> files = Files.list(Path.of("src/test/java"))) {
            for (Path file : files.filter(f -> f.toString().endsWith("BoundaryTest.java")).toList()) {
                Matcher says = SAYS.matcher(Files.readString(file));
                while (says.find()) {
                    quotes.add(new Quote(Integer.parseInt(says.group(1)), says.group(2).replaceAll("\"\\s*\\+\\s*\"", "").replace("\"", "")));
                }
            }
        }
        quotes.sort((a, b) -> b.words.length() - a.words.length());
        return quotes;
    }
}
