import java.util.ArrayList;
import java.util.List;

/** Answers that aren't the due ones, printed as they come. */
final class Due {
    private static int wrong;
    private static int asked;
    private static String sentence = "";

    private Due() { }

    /** The words of a promise (0: of what stands ahead of the first) that the next answers are held to. */
    static void says(int promise, String words) {
        sentence = (promise == 0 ? "ahead of promise 1: " : "promise " + promise + ": ") + words;
    }

    static void is(String what, long want, long got) {
        asked++;
        if (got != want) {
            wrong++;
            System.out.println(what + ": answered " + got + ", due is " + want + place());
        }
    }

    static void same(String what, String want, String got) {
        asked++;
        if (!got.equals(want)) {
            wrong++;
            System.out.println(what + ": answered" + System.lineSeparator() + got + ", due is" + System.lineSeparator() + want + place());
        }
    }

    private static String place() {
        return sentence.isEmpty() ? "" : " (" + sentence + ")";
    }

    static void yes(String what, boolean got) {
        is(what, 1, got ? 1 : 0);
    }

    static void no(String what, boolean got) {
        is(what, 0, got ? 1 : 0);
    }

    static void close() {
        System.out.println(asked + " answers, " + wrong + " of them wrong");
        if (wrong != 0 || asked == 0) {
            System.exit(1);
        }
    }

    /** The five words of each feed that a text takes. */
    static List<int[]> words(String text) {
        List<int[]> feeds = new ArrayList<>();
        for (int from = 0; from < text.length(); from += 20) {
            int[] words = new int[5];
            for (int i = 0; i < 20; i++) {
                int sign = from + i < text.length() ? text.charAt(from + i) & 255 : 0;
                words[i / 4] |= sign << 24 - 8 * (i % 4);
            }
            feeds.add(words);
        }
        return feeds;
    }

    /** Puts a text alone on the tape. */
    static void put(SixHands x, String text) {
        x.end(0);
        for (int[] w : words(text)) {
            x.feed(w[0], w[1], w[2], w[3], w[4]);
        }
        x.end(text.length());
    }

    /** Puts a text on the tape and reads it: its number. */
    static int read(SixHands x, String text) {
        put(x, text);
        return x.text();
    }

    /** Reads a text that has no fault and plays it: what played answers. */
    static int play(SixHands x, String text) {
        int number = read(x, text);
        yes("text(" + text + ")", number >= 0);
        return x.played(number);
    }

    /** Reads a text that has no fault and lets it rule. */
    static void rule(SixHands x, String text) {
        int number = read(x, text);
        yes("text(" + text + ")", number >= 0);
        yes("by(" + text + ")", x.by(number));
    }
}
